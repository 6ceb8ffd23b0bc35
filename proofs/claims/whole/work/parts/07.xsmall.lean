/-! ===== the class: its small methods and its readers ===== -/
theorem hp_rd {f : Nat → Nat} {j : Nat} (h : j < 2 ^ 31) : hp_A f (nI j).toNatClampNeg = nI (f j) := by
  rw [nI_clamp h]
  rfl
theorem hp_ix (t p : Nat) : nI t * 4 + nI p = nI (t * 4 + p) := by
  show nI t * nI 4 + nI p = _
  rw [pk_mul, nI_add]
/-- a reading under a name -/
theorem hp_nr {f : Nat → Nat} {j : Nat} {Q : Int32 → Prop} (h : j < 2 ^ 31) (q : Q (nI (f j))) : ∀ x, x = hp_A f (nI j).toNatClampNeg → Q x := nm_r (hp_rd h) q
/-- a store under a name -/
theorem hp_nu {f : Nat → Nat} {j v : Nat} {Q : (Nat → Int32) → Prop} (h : j < 2 ^ 31) (q : Q (hp_A (hp_u f j v))) : ∀ a, a = upd (hp_A f) (nI j).toNatClampNeg (nI v) → Q a :=
  nm_r (by rw [nI_clamp h, hp_uA]) q
theorem hp_n1 {i : Nat} {Q : Int32 → Prop} (q : Q (nI (i + 1))) : ∀ x, x = nI i + 1 → Q x := nm_r (nI_1 i) q
section
variable {P n m : Nat} {cp pl sp nw : Int32} {W D EU EV EC RK OR PR ST FN BS PF RS RF : Nat → Nat}
theorem x_inRange {post : Int32 → Prop} {v a b : Int32} (h0 : v < a ∨ b < v → post 0) (h1 : ¬ v < a → ¬ b < v → post 1) : wpX_inRange post v a b :=
  br_c (fun z => h0 (Or.inl z)) (fun z => br_c (fun y => h0 (Or.inr y)) (fun y => h1 z y))
theorem x_isTask {post : Int32 → Prop} {v : Int32} (hn : n ≤ 16) (h0 : v < 0 ∨ nI n ≤ v → post 0) (h1 : ∀ t, t < n → v = nI t → post 1) : wpX_isTask post (nI P, cp, nI n, nI m, pl, sp, nw, hp_A W, hp_A D, hp_A EU, hp_A EV, hp_A EC, hp_A RK, hp_A OR, hp_A PR, hp_A ST, hp_A FN, hp_A BS, hp_A PF, hp_A RS, hp_A RF) v := by
  refine br_c (fun z => h0 (Or.inl z)) (fun z => br_c (fun y => h0 (Or.inr y)) (fun y => ?_))
  obtain ⟨t, ht, rfl⟩ := nI_of z
  rw [nI_leI (by omega) ht] at y
  exact h1 t (by omega) rfl
theorem x_costOn {post : Int32 → Prop} {t p : Nat} (ht : t < 16) (hp : p < 4) (h : post (nI (W (t * 4 + p)))) : wpX_costOn post (nI P, cp, nI n, nI m, pl, sp, nw, hp_A W, hp_A D, hp_A EU, hp_A EV, hp_A EC, hp_A RK, hp_A OR, hp_A PR, hp_A ST, hp_A FN, hp_A BS, hp_A PF, hp_A RS, hp_A RF) (nI t) (nI p) := by
  show vp_in (nI t * 4 + nI p) 64 ∧ post (hp_A W (nI t * 4 + nI p).toNatClampNeg)
  rw [hp_ix, hp_rd (by omega)]
  exact ⟨pk_in (t * 4 + p) 64 (by omega), h⟩
theorem x_totalCost {post : Int32 → Prop} {t : Nat} (ht : t < 16) (hP : P ≤ 4) (h : post (nI (hp_tc W t P))) : wpX_totalCost post (nI P, cp, nI n, nI m, pl, sp, nw, hp_A W, hp_A D, hp_A EU, hp_A EV, hp_A EC, hp_A RK, hp_A OR, hp_A PR, hp_A ST, hp_A FN, hp_A BS, hp_A PF, hp_A RS, hp_A RF) (nI t) := by
  have key : ∀ f p, p ≤ P → P - p < f → wX_totalCost_4 post (nI t) (nI P) cp (nI n) (nI m) pl sp nw (hp_A W) (hp_A D) (hp_A EU) (hp_A EV) (hp_A EC) (hp_A RK) (hp_A OR) (hp_A PR) (hp_A ST) (hp_A FN) (hp_A BS) (hp_A PF) (hp_A RS) (hp_A RF) f (nI (hp_tc W t p)) (nI p) := by
    intro f
    induction f with
    | zero => intro p _ h; omega
    | succ f ih =>
      intro p hp hf
      refine pk_le P p (fun z => ?_) (fun z => ?_)
      · have e : p = P := by omega
        rw [e]
        exact h
      · refine x_costOn ht (by omega) ?_
        exact nm_r (nI_add _ _) (hp_n1 (ih (p + 1) (by omega) (by omega)))
  exact ⟨P + 1, key (P + 1) 0 (by omega) (by omega)⟩
theorem x_hasEdge {post : Int32 → Prop} {u v : Nat} (hm : m ≤ 32) (hu : u < 16) (hv : v < 16) (hE : ∀ e, e < m → EU e < 16 ∧ EV e < 16) (h1 : (∃ e, e < m ∧ EU e = u ∧ EV e = v) → post 1) (h0 : (∀ e, e < m → ¬ (EU e = u ∧ EV e = v)) → post 0) : wpX_hasEdge post (nI P, cp, nI n, nI m, pl, sp, nw, hp_A W, hp_A D, hp_A EU, hp_A EV, hp_A EC, hp_A RK, hp_A OR, hp_A PR, hp_A ST, hp_A FN, hp_A BS, hp_A PF, hp_A RS, hp_A RF) (nI u) (nI v) := by
  have key : ∀ f i, i ≤ m → m - i < f → (∀ e, e < i → ¬ (EU e = u ∧ EV e = v)) → wX_hasEdge_2 post (nI u) (nI v) (nI P) cp (nI n) (nI m) pl sp nw (hp_A W) (hp_A D) (hp_A EU) (hp_A EV) (hp_A EC) (hp_A RK) (hp_A OR) (hp_A PR) (hp_A ST) (hp_A FN) (hp_A BS) (hp_A PF) (hp_A RS) (hp_A RF) f (nI i) := by
    intro f
    induction f with
    | zero => intro i _ h; omega
    | succ f ih =>
      intro i hi hf hI
      refine pk_le m i (fun z => ?_) (fun z => ?_)
      · have e : i = m := by omega
        rw [e] at hI
        exact h0 hI
      · obtain ⟨e1, e2⟩ := hE i z
        have nx : ¬ (EU i = u ∧ EV i = v) → wX_hasEdge_2 post (nI u) (nI v) (nI P) cp (nI n) (nI m) pl sp nw (hp_A W) (hp_A D) (hp_A EU) (hp_A EV) (hp_A EC) (hp_A RK) (hp_A OR) (hp_A PR) (hp_A ST) (hp_A FN) (hp_A BS) (hp_A PF) (hp_A RS) (hp_A RF) f (nI (i + 1)) := fun q => ih (i + 1) (by omega) (by omega) (lt_s hI q)
        have hi32 : vp_in (nI i) 32 := pk_in i 32 (by omega)
        exact ⟨hi32, pk_eq (EU i) u (fun a => ⟨hi32, pk_eq (EV i) v (fun b => h1 ⟨i, z, a, b⟩) (fun b => hp_n1 (nx fun q => b q.2)) (hx := hp_rd (by omega))⟩) (fun a => hp_n1 (nx fun q => a q.1)) (hx := hp_rd (by omega))⟩
  exact ⟨m + 1, key (m + 1) 0 (by omega) (by omega) (fun e he => by omega)⟩
theorem x_leadsTo {post : Int32 → Prop} {s t : Nat} (hn : n ≤ 16) (hm : m ≤ 32) (hs : s < n) (ht : t < n) (hE : ∀ e, e < m → EU e < n ∧ EV e < n) (h : ∀ S : Nat → Prop, hp_RR n m EU EV s S → (S t → post 1) ∧ (¬ S t → post 0)) : wpX_leadsTo post (nI P, cp, nI n, nI m, pl, sp, nw, hp_A W, hp_A D, hp_A EU, hp_A EV, hp_A EC, hp_A RK, hp_A OR, hp_A PR, hp_A ST, hp_A FN, hp_A BS, hp_A PF, hp_A RS, hp_A RF) (nI s) (nI t) := by
  have inner : ∀ (S0 : Nat → Prop) (x4 : Nat) (J : Int32 → Int32 → Prop), (∀ S x, (∀ j, j < 32 → (bt x j = true ↔ S j)) → hp_RI n m EU EV s S0 m S → J x (nI (x4 + 1))) →
      ∀ f i S x, i ≤ m → m - i < f → (∀ j, j < 32 → (bt x j = true ↔ S j)) → hp_RI n m EU EV s S0 i S → wX_leadsTo_19 post J (nI t) (nI x4) (nI P) cp (nI n) (nI m) pl sp nw (hp_A W) (hp_A D) (hp_A EU) (hp_A EV) (hp_A EC) (hp_A RK) (hp_A OR) (hp_A PR) (hp_A ST) (hp_A FN) (hp_A BS) (hp_A PF) (hp_A RS) (hp_A RF) f x (nI i) := by
    intro S0 x4 J hJ f
    induction f with
    | zero => intro i S x _ h; omega
    | succ f ih =>
      intro i S x hi hf hb hI
      refine pk_le m i (fun z => ?_) (fun z => ?_)
      · have e : i = m := by omega
        rw [e] at hI
        exact hp_n1 (hJ S x hb hI)
      · obtain ⟨e1, e2⟩ := hE i z
        have hi32 : vp_in (nI i) 32 := pk_in i 32 (by omega)
        have eu : hp_A EU (nI i).toNatClampNeg = nI (EU i) := hp_rd (by omega)
        have ev : hp_A EV (nI i).toNatClampNeg = nI (EV i) := hp_rd (by omega)
        refine ⟨hi32, br_c (fun w => hp_n1 ?_) (fun w => ⟨hi32, nm_e (hp_n1 ?_)⟩)⟩
        · rw [eu, hp_band x (by omega), hb _ (by omega)] at w
          exact ih (i + 1) S x (by omega) (by omega) hb (hp_RIn hI w)
        · rw [eu, hp_band x (by omega), hb _ (by omega)] at w
          refine ih (i + 1) (fun j => S j ∨ j = EV i) _ (by omega) (by omega) (fun j hj => ?_) (hp_RIs hI z e2 (Classical.byContradiction w))
          rw [ev, hp_bor x (by omega) hj, hb j hj]
  have outer : ∀ f k S x, k ≤ n → n - k < f → (∀ j, j < 32 → (bt x j = true ↔ S j)) → hp_RO n m EU EV s k S → wX_leadsTo_7 post (nI t) (nI P) cp (nI n) (nI m) pl sp nw (hp_A W) (hp_A D) (hp_A EU) (hp_A EV) (hp_A EC) (hp_A RK) (hp_A OR) (hp_A PR) (hp_A ST) (hp_A FN) (hp_A BS) (hp_A PF) (hp_A RS) (hp_A RF) f x (nI k) := by
    intro f
    induction f with
    | zero => intro k S x _ h; omega
    | succ f ih =>
      intro k S x hk hf hb hO
      refine pk_le n k (fun z => ?_) (fun z => ?_)
      · have e : k = n := by omega
        rw [e] at hO
        obtain ⟨g1, g2⟩ := h S (hp_ROe hO)
        refine br_c (fun w => ?_) (fun w => ?_)
        · rw [hp_band x (by omega), hb _ (by omega)] at w
          exact g2 w
        · rw [hp_band x (by omega), hb _ (by omega)] at w
          exact g1 (Classical.byContradiction w)
      · exact ⟨m + 1, inner S k _ (fun S' x' hb' hI => ih (k + 1) S' x' (by omega) (by omega) hb' (hp_ROs hO hI)) (m + 1) 0 S x (by omega) (by omega) hb (hp_RI0 hO)⟩
  refine nm_e ⟨n + 1, outer (n + 1) 0 (fun j => j = s) _ (by omega) (by omega) (fun j hj => ?_) (hp_RO0 hs)⟩
  rw [hp_bit1 s (by omega) j hj, decide_eq_true_eq]
theorem x_dataReady__finishOf {post : Int32 → Prop} {t p : Nat} (hm : m ≤ 32) (ht : t < 16) (hp : p < 4) (hE : ∀ e, e < m → EU e < 16 ∧ EV e < 16 ∧ EC e ≤ 100) (hF : ∀ e, e < m → EV e = t → FN (EU e) ≤ 100000 ∧ PR (EU e) < 4) (h : post (nI (hp_mx EV t (hp_ar EU EC PR FN p) 0 m))) : wpX_dataReady__finishOf post (nI P, cp, nI n, nI m, pl, sp, nw, hp_A W, hp_A D, hp_A EU, hp_A EV, hp_A EC, hp_A RK, hp_A OR, hp_A PR, hp_A ST, hp_A FN, hp_A BS, hp_A PF, hp_A RS, hp_A RF) (nI t) (nI p) := by
  have bnd : ∀ i, i ≤ m → hp_mx EV t (hp_ar EU EC PR FN p) 0 i ≤ 100100 := fun i hi => hp_mxL (by omega) i (fun e he q => by
    have a := (hF e (by omega) q).1
    have b := (hE e (by omega)).2.2
    unfold hp_ar
    split <;> omega)
  have key : ∀ f i, i ≤ m → m - i < f → wX_dataReady__finishOf_6 post (nI t) (nI p) (nI P) cp (nI n) (nI m) pl sp nw (hp_A W) (hp_A D) (hp_A EU) (hp_A EV) (hp_A EC) (hp_A RK) (hp_A OR) (hp_A PR) (hp_A ST) (hp_A FN) (hp_A BS) (hp_A PF) (hp_A RS) (hp_A RF) f (nI (hp_mx EV t (hp_ar EU EC PR FN p) 0 i)) (nI i) := by
    intro f
    induction f with
    | zero => intro i _ h; omega
    | succ f ih =>
      intro i hi hf
      have bi := bnd i hi
      refine pk_le m i (fun z => ?_) (fun z => ?_)
      · have e : i = m := by omega
        rw [e]
        exact h
      · obtain ⟨e1, e2, e3⟩ := hE i z
        have hi32 : vp_in (nI i) 32 := pk_in i 32 (by omega)
        have hu16 : vp_in (nI (EU i)) 16 := pk_in (EU i) 16 (by omega)
        have nx := ih (i + 1) (by omega) (by omega)
        refine ⟨hi32, pk_eq (EV i) t (fun a => ?_) (fun a => ?_) (hx := hp_rd (by omega))⟩
        · obtain ⟨f1, f2⟩ := hF i z a
          have J : ∀ w, w = hp_ar EU EC PR FN p i → w ≤ 100100 → wX_dataReady__finishOf_65 post (wX_dataReady__finishOf_6 post (nI t) (nI p) (nI P) cp (nI n) (nI m) pl sp nw (hp_A W) (hp_A D) (hp_A EU) (hp_A EV) (hp_A EC) (hp_A RK) (hp_A OR) (hp_A PR) (hp_A ST) (hp_A FN) (hp_A BS) (hp_A PF) (hp_A RS) (hp_A RF) f) (nI t) (nI p) (nI (hp_mx EV t (hp_ar EU EC PR FN p) 0 i)) (nI i) (nI w) (nI P) cp (nI n) (nI m) pl sp nw (hp_A W) (hp_A D) (hp_A EU) (hp_A EV) (hp_A EC) (hp_A RK) (hp_A OR) (hp_A PR) (hp_A ST) (hp_A FN) (hp_A BS) (hp_A PF) (hp_A RS) (hp_A RF) := by
            intro w hw hb
            refine pk_le w (hp_mx EV t (hp_ar EU EC PR FN p) 0 i) (fun q => hp_n1 ?_) (fun q => hp_n1 ?_)
            · rw [hp_mx2 a (by omega)] at nx
              exact nx
            · rw [hp_mx1 a (by omega)] at nx
              rw [hw]
              exact nx
          refine ⟨hi32, hp_nr (by omega) ⟨hu16, pk_eq (PR (EU i)) p (fun b => ⟨hu16, ?_⟩) (fun b => ⟨hu16, hi32, ?_⟩) (hx := hp_rd (by omega))⟩⟩
          · rw [hp_rd (by omega)]
            refine J _ ?_ (by omega)
            unfold hp_ar
            rw [if_pos b, Nat.add_zero]
          · rw [hp_rd (by omega), hp_rd (by omega), nI_add]
            refine J _ ?_ (by omega)
            unfold hp_ar
            rw [if_neg b]
        · rw [hp_mx3 a] at nx
          exact hp_n1 nx
  exact ⟨m + 1, key (m + 1) 0 (by omega) (by omega)⟩
theorem x_dataReady__replayedFinish {post : Int32 → Prop} {t p : Nat} (hm : m ≤ 32) (ht : t < 16) (hp : p < 4) (hE : ∀ e, e < m → EU e < 16 ∧ EV e < 16 ∧ EC e ≤ 100) (hF : ∀ e, e < m → EV e = t → RF (EU e) ≤ 100000 ∧ PR (EU e) < 4) (h : post (nI (hp_mx EV t (hp_ar EU EC PR RF p) 0 m))) : wpX_dataReady__replayedFinish post (nI P, cp, nI n, nI m, pl, sp, nw, hp_A W, hp_A D, hp_A EU, hp_A EV, hp_A EC, hp_A RK, hp_A OR, hp_A PR, hp_A ST, hp_A FN, hp_A BS, hp_A PF, hp_A RS, hp_A RF) (nI t) (nI p) := by
  have bnd : ∀ i, i ≤ m → hp_mx EV t (hp_ar EU EC PR RF p) 0 i ≤ 100100 := fun i hi => hp_mxL (by omega) i (fun e he q => by
    have a := (hF e (by omega) q).1
    have b := (hE e (by omega)).2.2
    unfold hp_ar
    split <;> omega)
  have key : ∀ f i, i ≤ m → m - i < f → wX_dataReady__replayedFinish_6 post (nI t) (nI p) (nI P) cp (nI n) (nI m) pl sp nw (hp_A W) (hp_A D) (hp_A EU) (hp_A EV) (hp_A EC) (hp_A RK) (hp_A OR) (hp_A PR) (hp_A ST) (hp_A FN) (hp_A BS) (hp_A PF) (hp_A RS) (hp_A RF) f (nI (hp_mx EV t (hp_ar EU EC PR RF p) 0 i)) (nI i) := by
    intro f
    induction f with
    | zero => intro i _ h; omega
    | succ f ih =>
      intro i hi hf
      have bi := bnd i hi
      refine pk_le m i (fun z => ?_) (fun z => ?_)
      · have e : i = m := by omega
        rw [e]
        exact h
      · obtain ⟨e1, e2, e3⟩ := hE i z
        have hi32 : vp_in (nI i) 32 := pk_in i 32 (by omega)
        have hu16 : vp_in (nI (EU i)) 16 := pk_in (EU i) 16 (by omega)
        have nx := ih (i + 1) (by omega) (by omega)
        refine ⟨hi32, pk_eq (EV i) t (fun a => ?_) (fun a => ?_) (hx := hp_rd (by omega))⟩
        · obtain ⟨f1, f2⟩ := hF i z a
          have J : ∀ w, w = hp_ar EU EC PR RF p i → w ≤ 100100 → wX_dataReady__replayedFinish_65 post (wX_dataReady__replayedFinish_6 post (nI t) (nI p) (nI P) cp (nI n) (nI m) pl sp nw (hp_A W) (hp_A D) (hp_A EU) (hp_A EV) (hp_A EC) (hp_A RK) (hp_A OR) (hp_A PR) (hp_A ST) (hp_A FN) (hp_A BS) (hp_A PF) (hp_A RS) (hp_A RF) f) (nI t) (nI p) (nI (hp_mx EV t (hp_ar EU EC PR RF p) 0 i)) (nI i) (nI w) (nI P) cp (nI n) (nI m) pl sp nw (hp_A W) (hp_A D) (hp_A EU) (hp_A EV) (hp_A EC) (hp_A RK) (hp_A OR) (hp_A PR) (hp_A ST) (hp_A FN) (hp_A BS) (hp_A PF) (hp_A RS) (hp_A RF) := by
            intro w hw hb
            refine pk_le w (hp_mx EV t (hp_ar EU EC PR RF p) 0 i) (fun q => hp_n1 ?_) (fun q => hp_n1 ?_)
            · rw [hp_mx2 a (by omega)] at nx
              exact nx
            · rw [hp_mx1 a (by omega)] at nx
              rw [hw]
              exact nx
          refine ⟨hi32, hp_nr (by omega) ⟨hu16, pk_eq (PR (EU i)) p (fun b => ⟨hu16, ?_⟩) (fun b => ⟨hu16, hi32, ?_⟩) (hx := hp_rd (by omega))⟩⟩
          · rw [hp_rd (by omega)]
            refine J _ ?_ (by omega)
            unfold hp_ar
            rw [if_pos b, Nat.add_zero]
          · rw [hp_rd (by omega), hp_rd (by omega), nI_add]
            refine J _ ?_ (by omega)
            unfold hp_ar
            rw [if_neg b]
        · rw [hp_mx3 a] at nx
          exact hp_n1 nx
  exact ⟨m + 1, key (m + 1) 0 (by omega) (by omega)⟩
theorem x_planQueryRefusal {post : Int32 → Prop} {v : Int32} (hn : n ≤ 16) (h6 : pl = 0 → post (-6)) (h1 : ¬ pl = 0 → (v < 0 ∨ nI n ≤ v) → post (-1)) (h0 : ¬ pl = 0 → ∀ t, t < n → v = nI t → post 0) : wpX_planQueryRefusal post (nI P, cp, nI n, nI m, pl, sp, nw, hp_A W, hp_A D, hp_A EU, hp_A EV, hp_A EC, hp_A RK, hp_A OR, hp_A PR, hp_A ST, hp_A FN, hp_A BS, hp_A PF, hp_A RS, hp_A RF) v :=
  br_c h6 (fun z => x_isTask hn (fun q => br_t rfl (h1 z q)) (fun t ht q => br_f (by decide) (h0 z t ht q)))
end
