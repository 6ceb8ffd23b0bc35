section
variable {P n m : Nat} {cp pl ck mk : Int32} {W D EU EV EC RK OR PR ST FN rs rf us pc rc : Nat → Nat}
/-! ===== the reference: the replay ===== -/
theorem y_replayOnce {post : SY → Prop} {t : Nat} (G : hp_G P n m W EU EV EC) (Q : hp_Pl P n m W EU EV PR ST FN) (hD : ∀ x, x < n → D x ≤ 100) (hrf : ∀ x, x < n → rf x ≤ 4800) (ht : t < n)
    (h : ∀ b, hp_Bs n PR ST rf t b → post (nI P, cp, nI n, nI m, pl, ck, mk, hp_A W, hp_A D, hp_A EU, hp_A EV, hp_A EC, hp_A RK, hp_A OR, hp_A PR, hp_A ST, hp_A FN, hp_A (hp_u rs t (hp_mx EV t (hp_ar EU EC PR rf (PR t)) b m)), hp_A (hp_u rf t (hp_mx EV t (hp_ar EU EC PR rf (PR t)) b m + W (t * 4 + PR t) + D t)), hp_A us, hp_A pc, hp_A rc)) : wpY_replayOnce post (nI P, cp, nI n, nI m, pl, ck, mk, hp_A W, hp_A D, hp_A EU, hp_A EV, hp_A EC, hp_A RK, hp_A OR, hp_A PR, hp_A ST, hp_A FN, hp_A rs, hp_A rf, hp_A us, hp_A pc, hp_A rc) (nI t) := by
  have G' := G
  obtain ⟨hP1, hP, hn, hm, hW, hE, hT⟩ := G'
  obtain ⟨hp, hf0, hf1⟩ := Q.1 t ht
  have ht16 : vp_in (nI t) 16 := pk_in t 16 (by omega)
  have hq : ∀ x, x < n → PR x < 4 ∧ ST x ≤ 3200 := fun x hx => by
    have := Q.1 x hx
    exact ⟨by omega, by omega⟩
  have hst := (hq t ht).2
  have k2 : ∀ b, b ≤ 4800 → hp_Bs n PR ST rf t b → ∀ f i, i ≤ m → m - i < f → wY_replayOnce_101 post (nI t) (nI (PR t)) (nI P) cp (nI n) (nI m) pl ck mk (hp_A W) (hp_A D) (hp_A EU) (hp_A EV) (hp_A EC) (hp_A RK) (hp_A OR) (hp_A PR) (hp_A ST) (hp_A FN) (hp_A rs) (hp_A rf) (hp_A us) (hp_A pc) (hp_A rc) f (nI (hp_mx EV t (hp_ar EU EC PR rf (PR t)) b i)) (nI i) := by
    intro b hb hB f
    have bnd : ∀ i, i ≤ m → hp_mx EV t (hp_ar EU EC PR rf (PR t)) b i ≤ 10000 := fun i hi => hp_mxL (by omega) i (fun e he q => by
      have a := hrf _ (hE e (by omega)).1
      have c := (hE e (by omega)).2.2
      unfold hp_ar
      split <;> omega)
    induction f with
    | zero => intro i _ h; omega
    | succ f ih =>
      intro i hi hf
      have bi := bnd i hi
      refine pk_le m i (fun z => ?_) (fun z => ?_)
      · have e : i = m := by omega
        rw [e]
        refine ⟨ht16, hp_nu (by omega) ?_⟩
        rw [hp_ix, hp_rd (f := W) (by omega), hp_rd (f := D) (by omega), nI_add, nI_add]
        exact ⟨pk_in (t * 4 + PR t) 64 (by omega), ht16, ht16, hp_nu (by omega) (h b hB)⟩
      · obtain ⟨e1, e2, e3⟩ := hE i z
        have hi32 : vp_in (nI i) 32 := pk_in i 32 (by omega)
        have hu16 : vp_in (nI (EU i)) 16 := pk_in (EU i) 16 (by omega)
        have nx := ih (i + 1) (by omega) (by omega)
        have r1 := hrf _ e1
        have r2 := (hq _ e1).1
        refine ⟨hi32, pk_eq (EV i) t (fun c => ⟨hi32, hp_nr (by omega) ⟨hu16, hu16, ?_⟩⟩) (fun c => hp_n1 ?_) (hx := hp_rd (by omega))⟩
        · have J : ∀ w1 w2, w1 + w2 = hp_ar EU EC PR rf (PR t) i → w1 + w2 ≤ 10100 → wY_replayOnce_159 post (wY_replayOnce_101 post (nI t) (nI (PR t)) (nI P) cp (nI n) (nI m) pl ck mk (hp_A W) (hp_A D) (hp_A EU) (hp_A EV) (hp_A EC) (hp_A RK) (hp_A OR) (hp_A PR) (hp_A ST) (hp_A FN) (hp_A rs) (hp_A rf) (hp_A us) (hp_A pc) (hp_A rc) f) (nI t) (nI (PR t)) (nI (hp_mx EV t (hp_ar EU EC PR rf (PR t)) b i)) (nI i) (nI w2) (nI w1) (nI P) cp (nI n) (nI m) pl ck mk (hp_A W) (hp_A D) (hp_A EU) (hp_A EV) (hp_A EC) (hp_A RK) (hp_A OR) (hp_A PR) (hp_A ST) (hp_A FN) (hp_A rs) (hp_A rf) (hp_A us) (hp_A pc) (hp_A rc) := by
            intro w1 w2 hw hb
            refine nm_r (nI_add w1 w2) (pk_le (w1 + w2) (hp_mx EV t (hp_ar EU EC PR rf (PR t)) b i) (fun y => hp_n1 ?_) (fun y => hp_n1 ?_))
            · rw [hp_mx2 c (by omega)] at nx
              exact nx
            · rw [hp_mx1 c (by omega)] at nx
              rw [hw]
              exact nx
          rw [hp_rd (f := rf) (j := EU i) (by omega), hp_rd (f := EC) (j := i) (by omega)]
          refine pk_eq (PR (EU i)) (PR t) (fun b => J _ 0 ?_ (by omega)) (fun b => ⟨hi32, J _ _ ?_ (by omega)⟩) (hx := hp_rd (by omega))
          · unfold hp_ar
            rw [if_pos b]
          · unfold hp_ar
            rw [if_neg b]
        · rw [hp_mx3 c] at nx
          exact nx
  have k1 : ∀ f x o, x ≤ n → n - x < f → hp_Pv PR ST t x o → wY_replayOnce_12 post (nI t) (nI (PR t)) (nI P) cp (nI n) (nI m) pl ck mk (hp_A W) (hp_A D) (hp_A EU) (hp_A EV) (hp_A EC) (hp_A RK) (hp_A OR) (hp_A PR) (hp_A ST) (hp_A FN) (hp_A rs) (hp_A rf) (hp_A us) (hp_A pc) (hp_A rc) f (hp_o o) (nI x) := by
    intro f
    induction f with
    | zero => intro x o _ h; omega
    | succ f ih =>
      intro x o hx hf hI
      refine pk_le n x (fun z => ?_) (fun z => ?_)
      · have e : x = n := by omega
        rw [e] at hI
        cases o with
        | none => exact br_t hp_m1n ⟨m + 1, k2 0 (by omega) (hp_PvN hI) (m + 1) 0 (by omega) (by omega)⟩
        | some b =>
          have hb := hI.1
          exact br_f (nI_pos (by omega)) ⟨pk_in b 16 (by omega), hp_nr (by omega) ⟨m + 1, k2 (rf b) (hrf b hb) (hp_PvS hI) (m + 1) 0 (by omega) (by omega)⟩⟩
      · have h16 : vp_in (nI x) 16 := pk_in x 16 (by omega)
        obtain ⟨q1, q2⟩ := hq x z
        have skip : (PR x = PR t → ST x < ST t → ∃ b, o = some b ∧ ST x ≤ ST b) → wY_replayOnce_12 post (nI t) (nI (PR t)) (nI P) cp (nI n) (nI m) pl ck mk (hp_A W) (hp_A D) (hp_A EU) (hp_A EV) (hp_A EC) (hp_A RK) (hp_A OR) (hp_A PR) (hp_A ST) (hp_A FN) (hp_A rs) (hp_A rf) (hp_A us) (hp_A pc) (hp_A rc) f (hp_o o) (nI (x + 1)) := fun w => ih (x + 1) o (by omega) (by omega) (hp_PvK hI w)
        refine pk_eq x t (fun w => hp_n1 (skip fun _ q => by rw [w] at q; omega)) (fun w => ⟨h16, ?_⟩)
        refine pk_eq (PR x) (PR t) (fun c => ⟨h16, ht16, ?_⟩) (fun c => hp_n1 (skip fun q _ => absurd q c)) (hx := hp_rd (by omega))
        refine pk_le (ST t) (ST x) (fun c2 => hp_n1 (skip fun _ q => by omega)) (fun c2 => ?_) (hx := hp_rd (by omega)) (hy := hp_rd (by omega))
        cases o with
        | none => exact br_t hp_m1n (hp_n1 (ih (x + 1) (some x) (by omega) (by omega) (hp_PvT hI c c2 (fun b e => (nomatch e)))))
        | some b =>
          have hb := hI.1
          have hb2 := (hq b (by omega)).2
          refine br_f (nI_pos (by omega)) ⟨h16, pk_in b 16 (by omega), ?_⟩
          exact pk_le (ST x) (ST b) (fun y => hp_n1 (skip fun _ _ => ⟨b, rfl, y⟩)) (fun y => hp_n1 (ih (x + 1) (some x) (by omega) (by omega) (hp_PvT hI c c2 (fun b' e => by cases e; exact y)))) (hx := hp_rd (by omega)) (hy := hp_rd (by omega))
  exact ⟨ht16, hp_nr (by omega) ⟨n + 1, k1 (n + 1) 0 none (by omega) (by omega) (hp_Pv0 PR ST t)⟩⟩
theorem y_replay {post : SY → Prop} {RS RF : Nat → Nat} (G : hp_G P n m W EU EV EC) (Q : hp_Pl P n m W EU EV PR ST FN) (hD : ∀ x, x < n → D x ≤ 100) (R : hp_Rp n m W D EU EV EC PR ST RS RF)
    (h : ∀ rs' rf', (∀ t, t < n → rs' t = RS t ∧ rf' t = RF t) → post (nI P, cp, nI n, nI m, pl, ck, mk, hp_A W, hp_A D, hp_A EU, hp_A EV, hp_A EC, hp_A RK, hp_A OR, hp_A PR, hp_A ST, hp_A FN, hp_A rs', hp_A rf', hp_A us, hp_A pc, hp_A rc)) : wpY_replay post (nI P, cp, nI n, nI m, pl, ck, mk, hp_A W, hp_A D, hp_A EU, hp_A EV, hp_A EC, hp_A RK, hp_A OR, hp_A PR, hp_A ST, hp_A FN, hp_A rs, hp_A rf, hp_A us, hp_A pc, hp_A rc) := by
  have hn := G.2.2.1
  obtain ⟨L, hL1, hL2⟩ := hp_lev ST n
  have inner : ∀ (k : Nat) (J : Int32 → Int32 → Int32 → Int32 → Int32 → Int32 → Int32 → Int32 → (Nat → Int32) → (Nat → Int32) → (Nat → Int32) → (Nat → Int32) → (Nat → Int32) → (Nat → Int32) → (Nat → Int32) → (Nat → Int32) → (Nat → Int32) → (Nat → Int32) → (Nat → Int32) → (Nat → Int32) → (Nat → Int32) → (Nat → Int32) → (Nat → Int32) → Prop), (∀ rs' rf', hp_YQ n L RS RF k n rs' rf' → J (nI (k + 1)) (nI P) cp (nI n) (nI m) pl ck mk (hp_A W) (hp_A D) (hp_A EU) (hp_A EV) (hp_A EC) (hp_A RK) (hp_A OR) (hp_A PR) (hp_A ST) (hp_A FN) (hp_A rs') (hp_A rf') (hp_A us) (hp_A pc) (hp_A rc)) → ∀ f i rs' rf', i ≤ n → n - i < f → hp_YQ n L RS RF k i rs' rf' → wY_replay_42 post J (nI k) f (nI i) (nI P) cp (nI n) (nI m) pl ck mk (hp_A W) (hp_A D) (hp_A EU) (hp_A EV) (hp_A EC) (hp_A RK) (hp_A OR) (hp_A PR) (hp_A ST) (hp_A FN) (hp_A rs') (hp_A rf') (hp_A us) (hp_A pc) (hp_A rc) := by
    intro k J hJ f
    induction f with
    | zero => intro i rs' rf' _ h; omega
    | succ f ih =>
      intro i rs' rf' hi hf hI
      refine pk_le n i (fun z => ?_) (fun z => ?_)
      · have e : i = n := by omega
        rw [e] at hI
        exact hp_n1 (hJ rs' rf' hI)
      · refine y_replayOnce G Q hD (fun x hx => ?_) z (fun b hb => ?_)
        · have a1 := hI.1.1 x hx
          have a2 := (R x hx).2
          omega
        · exact hp_n1 (ih (i + 1) _ _ (by omega) (by omega) (hp_YQs G Q hL2 R z hI hb).2)
  have outer : ∀ f k rs' rf', k ≤ n + 1 → n + 1 - k < f → hp_YR n L RS RF k rs' rf' → wY_replay_32 post f (nI k) (nI P) cp (nI n) (nI m) pl ck mk (hp_A W) (hp_A D) (hp_A EU) (hp_A EV) (hp_A EC) (hp_A RK) (hp_A OR) (hp_A PR) (hp_A ST) (hp_A FN) (hp_A rs') (hp_A rf') (hp_A us) (hp_A pc) (hp_A rc) := by
    intro f
    induction f with
    | zero => intro k rs' rf' _ h; omega
    | succ f ih =>
      intro k rs' rf' hk hf hI
      refine pk_lt n k (fun z => ?_) (fun z => ?_)
      · exact h rs' rf' (fun t ht => hI.2 t ht (by have := hL1 t ht; omega))
      · exact ⟨n + 1, inner k _ (fun rs'' rf'' hq => ih (k + 1) rs'' rf'' (by omega) (by omega) (hp_YQe hq)) (n + 1) 0 rs' rf' (by omega) (by omega) ⟨hI, fun t ht => by omega⟩⟩
  have init : ∀ f t rs' rf', t ≤ n → n - t < f → (∀ x, x < t → rf' x = 0) → wY_replay_2 post (nI P) cp (nI n) (nI m) pl ck mk f (nI t) (hp_A W) (hp_A D) (hp_A EU) (hp_A EV) (hp_A EC) (hp_A RK) (hp_A OR) (hp_A PR) (hp_A ST) (hp_A FN) (hp_A rs') (hp_A rf') (hp_A us) (hp_A pc) (hp_A rc) := by
    intro f
    induction f with
    | zero => intro t rs' rf' _ h; omega
    | succ f ih =>
      intro t rs' rf' ht hf hI
      refine pk_le n t (fun z => ?_) (fun z => ?_)
      · have e : t = n := by omega
        rw [e] at hI
        exact ⟨n + 2, outer (n + 2) 0 rs' rf' (by omega) (by omega) (hp_YR0 hI)⟩
      · have h16 : vp_in (nI t) 16 := pk_in t 16 (by omega)
        refine ⟨h16, hp_nu (v := 0) (by omega) ⟨h16, hp_nu (v := 0) (by omega) (hp_n1 (ih (t + 1) _ _ (by omega) (by omega) (fun x hx => ?_)))⟩⟩
        by_cases e : x = t
        · subst e; rw [hp_us]
        · rw [hp_un e]; exact hI x (by omega)
  exact ⟨n + 1, init (n + 1) 0 rs rf (by omega) (by omega) (fun x hx => by omega)⟩
theorem y_count {post : Int32 → SY → Prop} {c : Nat} (hn : n ≤ 16) (hc : c < 2 ^ 31) (hF : ∀ t, t < n → rf t ≤ 4800) (h : post (nI (hp_ct rf c n)) (nI P, cp, nI n, nI m, pl, nI c, mk, hp_A W, hp_A D, hp_A EU, hp_A EV, hp_A EC, hp_A RK, hp_A OR, hp_A PR, hp_A ST, hp_A FN, hp_A rs, hp_A rf, hp_A us, hp_A pc, hp_A rc)) : ∃ f, wY_run_39 post (nI P) cp (nI n) (nI m) pl (nI c) mk (hp_A W) (hp_A D) (hp_A EU) (hp_A EV) (hp_A EC) (hp_A RK) (hp_A OR) (hp_A PR) (hp_A ST) (hp_A FN) (hp_A rs) (hp_A rf) (hp_A us) (hp_A pc) (hp_A rc) f 0 0 := by
  have key : ∀ f t, t ≤ n → n - t < f → wY_run_39 post (nI P) cp (nI n) (nI m) pl (nI c) mk (hp_A W) (hp_A D) (hp_A EU) (hp_A EV) (hp_A EC) (hp_A RK) (hp_A OR) (hp_A PR) (hp_A ST) (hp_A FN) (hp_A rs) (hp_A rf) (hp_A us) (hp_A pc) (hp_A rc) f (nI (hp_ct rf c t)) (nI t) := by
    intro f
    induction f with
    | zero => intro t _ h; omega
    | succ f ih =>
      intro t ht hf
      refine pk_le n t (fun z => ?_) (fun z => ?_)
      · have e : t = n := by omega
        rw [e]
        exact h
      · have b := hF t z
        have nx := ih (t + 1) (by omega) (by omega)
        refine ⟨pk_in t 16 (by omega), pk_lt c (rf t) (fun w => hp_n1 ?_) (fun w => hp_n1 (hp_n1 ?_)) (hy := hp_rd (by omega))⟩
        · rw [hp_ct, if_neg (by omega)] at nx
          exact nx
        · rw [hp_ct, if_pos w] at nx
          exact nx
  exact ⟨n + 1, key (n + 1) 0 (by omega) (by omega)⟩
/-! ===== the reference: an edge ===== -/
theorem y_addEdge {post : Int32 → SY → Prop} {u v c : Nat} {S : Nat → Prop} (hn : n ≤ 16) (hm : m ≤ 32) (hu : u < n) (hv : v < n) (hc : c ≤ 100) (hE : ∀ e, e < m → EU e < n ∧ EV e < n) (hS : hp_RR n m EU EV v S)
    (h3 : (∃ e, e < m ∧ EU e = u ∧ EV e = v) → post (-3) (nI P, cp, nI n, nI m, pl, ck, mk, hp_A W, hp_A D, hp_A EU, hp_A EV, hp_A EC, hp_A RK, hp_A OR, hp_A PR, hp_A ST, hp_A FN, hp_A rs, hp_A rf, hp_A us, hp_A pc, hp_A rc))
    (h2 : (∀ e, e < m → ¬ (EU e = u ∧ EV e = v)) → m = 32 → post (-2) (nI P, cp, nI n, nI m, pl, ck, mk, hp_A W, hp_A D, hp_A EU, hp_A EV, hp_A EC, hp_A RK, hp_A OR, hp_A PR, hp_A ST, hp_A FN, hp_A rs, hp_A rf, hp_A us, hp_A pc, hp_A rc))
    (h4 : (∀ e, e < m → ¬ (EU e = u ∧ EV e = v)) → m ≠ 32 → S u → ∀ rc', post (-4) (nI P, cp, nI n, nI m, pl, ck, mk, hp_A W, hp_A D, hp_A EU, hp_A EV, hp_A EC, hp_A RK, hp_A OR, hp_A PR, hp_A ST, hp_A FN, hp_A rs, hp_A rf, hp_A us, hp_A pc, hp_A rc'))
    (h0 : (∀ e, e < m → ¬ (EU e = u ∧ EV e = v)) → m ≠ 32 → ¬ S u → ∀ rc', post (nI m) (nI P, cp, nI n, nI (m + 1), 0, 0, mk, hp_A W, hp_A D, hp_A (hp_u EU m u), hp_A (hp_u EV m v), hp_A (hp_u EC m c), hp_A RK, hp_A OR, hp_A PR, hp_A ST, hp_A FN, hp_A rs, hp_A rf, hp_A us, hp_A pc, hp_A rc')) :
    wpY_addEdge post (nI P, cp, nI n, nI m, pl, ck, mk, hp_A W, hp_A D, hp_A EU, hp_A EV, hp_A EC, hp_A RK, hp_A OR, hp_A PR, hp_A ST, hp_A FN, hp_A rs, hp_A rf, hp_A us, hp_A pc, hp_A rc) (nI u) (nI v) (nI c) := by
  have u16 : vp_in (nI u) 16 := pk_in u 16 (by omega)
  have v16 : vp_in (nI v) 16 := pk_in v 16 (by omega)
  have l149 : ∀ (S0 : Nat → Prop) (k : Nat) (J : Int32 → (Nat → Int32) → (Nat → Int32) → (Nat → Int32) → (Nat → Int32) → (Nat → Int32) → (Nat → Int32) → (Nat → Int32) → (Nat → Int32) → (Nat → Int32) → (Nat → Int32) → (Nat → Int32) → (Nat → Int32) → (Nat → Int32) → (Nat → Int32) → (Nat → Int32) → Prop), (∀ T g, (∀ j, j < n → g j ≤ 1 ∧ (g j = 1 ↔ T j)) → hp_RI n m EU EV v S0 m T → J (nI (k + 1)) (hp_A W) (hp_A D) (hp_A EU) (hp_A EV) (hp_A EC) (hp_A RK) (hp_A OR) (hp_A PR) (hp_A ST) (hp_A FN) (hp_A rs) (hp_A rf) (hp_A us) (hp_A pc) (hp_A g)) →
      ∀ f i T g, i ≤ m → m - i < f → (∀ j, j < n → g j ≤ 1 ∧ (g j = 1 ↔ T j)) → hp_RI n m EU EV v S0 i T → wY_addEdge_149 post J (nI u) (nI v) (nI c) (nI k) (nI P) cp (nI n) (nI m) pl ck mk f (nI i) (hp_A W) (hp_A D) (hp_A EU) (hp_A EV) (hp_A EC) (hp_A RK) (hp_A OR) (hp_A PR) (hp_A ST) (hp_A FN) (hp_A rs) (hp_A rf) (hp_A us) (hp_A pc) (hp_A g) := by
    intro S0 k J hJ f
    induction f with
    | zero => intro i T g _ h; omega
    | succ f ih =>
      intro i T g hi hf hg hI
      refine pk_le m i (fun z => ?_) (fun z => ?_)
      · have e : i = m := by omega
        rw [e] at hI
        exact hp_n1 (hJ T g hg hI)
      · obtain ⟨e1, e2⟩ := hE i z
        have hi32 : vp_in (nI i) 32 := pk_in i 32 (by omega)
        refine ⟨hi32, ?_⟩
        rw [hp_rd (f := EU) (j := i) (by omega), hp_rd (f := EV) (j := i) (by omega)]
        refine ⟨pk_in (EU i) 16 (by omega), hp_z (by omega) (hg _ e1).1 (hg _ e1).2 (fun w => hp_n1 (ih (i + 1) T g (by omega) (by omega) hg (hp_RIn hI w))) (fun w => ⟨hi32, pk_in (EV i) 16 (by omega), hp_nuB1 (by omega) (hp_n1 (ih (i + 1) (fun j => T j ∨ j = EV i) _ (by omega) (by omega) (fun j hj => ?_) (hp_RIs hI z e2 w)))⟩)⟩
        by_cases e : j = EV i
        · subst e
          rw [hp_us]
          exact ⟨Nat.le_refl _, fun _ => Or.inr rfl, fun _ => rfl⟩
        · rw [hp_un e]
          exact ⟨(hg j hj).1, fun q => Or.inl ((hg j hj).2.mp q), fun q => (hg j hj).2.mpr (q.elim id (fun q => absurd q e))⟩
  have l137 : (∀ e, e < m → ¬ (EU e = u ∧ EV e = v)) → m ≠ 32 → ∀ f k T g, k ≤ n → n - k < f → (∀ j, j < n → g j ≤ 1 ∧ (g j = 1 ↔ T j)) → hp_RO n m EU EV v k T → wY_addEdge_137 post (nI u) (nI v) (nI c) (nI P) cp (nI n) (nI m) pl ck mk f (nI k) (hp_A W) (hp_A D) (hp_A EU) (hp_A EV) (hp_A EC) (hp_A RK) (hp_A OR) (hp_A PR) (hp_A ST) (hp_A FN) (hp_A rs) (hp_A rf) (hp_A us) (hp_A pc) (hp_A g) := by
    intro hd hm32 f
    induction f with
    | zero => intro k T g _ h; omega
    | succ f ih =>
      intro k T g hk hf hg hO
      refine pk_le n k (fun z => ?_) (fun z => ?_)
      · have e : k = n := by omega
        rw [e] at hO
        have hT := hp_RRu (hp_ROe hO) hS u
        have m32 : vp_in (nI m) 32 := pk_in m 32 (by omega)
        refine ⟨u16, hp_z (by omega) (hg u hu).1 (hg u hu).2 (fun w => ⟨m32, hp_nu (by omega) ⟨m32, hp_nu (by omega) ⟨m32, hp_nu (by omega) (hp_n1 ?_)⟩⟩⟩) (fun w => h4 hd hm32 (hT.mp w) g)⟩
        have q := h0 hd hm32 (fun y => w (hT.mpr y)) g
        rw [← nI_pred m] at q
        exact q
      · exact ⟨m + 1, l149 T k _ (fun T' g' hg' hI => ih (k + 1) T' g' (by omega) (by omega) hg' (hp_ROs hO hI)) (m + 1) 0 T g (by omega) (by omega) hg (hp_RI0 hO)⟩
  have l104 : (∀ e, e < m → ¬ (EU e = u ∧ EV e = v)) → m ≠ 32 → ∀ f t g, t ≤ n → n - t < f → (∀ j, j < t → g j = 0) → wY_addEdge_104 post (nI u) (nI v) (nI c) (nI P) cp (nI n) (nI m) pl ck mk f (nI t) (hp_A W) (hp_A D) (hp_A EU) (hp_A EV) (hp_A EC) (hp_A RK) (hp_A OR) (hp_A PR) (hp_A ST) (hp_A FN) (hp_A rs) (hp_A rf) (hp_A us) (hp_A pc) (hp_A g) := by
    intro hd hm32 f
    induction f with
    | zero => intro t g _ h; omega
    | succ f ih =>
      intro t g ht hf hI
      refine pk_le n t (fun z => ?_) (fun z => ?_)
      · have e : t = n := by omega
        rw [e] at hI
        refine ⟨v16, hp_nuB1 (by omega) ⟨n + 1, l137 hd hm32 (n + 1) 0 (fun j => j = v) _ (by omega) (by omega) (fun j hj => ?_) (hp_RO0 hv)⟩⟩
        by_cases e : j = v
        · subst e
          rw [hp_us]
          exact ⟨Nat.le_refl _, fun _ => rfl, fun _ => rfl⟩
        · rw [hp_un e, hI j hj]
          exact ⟨Nat.zero_le _, fun q => absurd q (by decide), fun q => absurd q e⟩
      · refine ⟨pk_in t 16 (by omega), hp_nuB0 (by omega) (hp_n1 (ih (t + 1) _ (by omega) (by omega) (fun x hx => ?_)))⟩
        by_cases e : x = t
        · subst e; rw [hp_us]
        · rw [hp_un e]; exact hI x (by omega)
  have l41 : ∀ f i, i ≤ m → m - i < f → (∀ e, e < i → ¬ (EU e = u ∧ EV e = v)) → wY_addEdge_41 post (nI u) (nI v) (nI c) (nI P) cp (nI n) (nI m) pl ck mk (hp_A W) (hp_A D) (hp_A EU) (hp_A EV) (hp_A EC) (hp_A RK) (hp_A OR) (hp_A PR) (hp_A ST) (hp_A FN) (hp_A rs) (hp_A rf) (hp_A us) (hp_A pc) (hp_A rc) f (nI i) := by
    intro f
    induction f with
    | zero => intro i _ h; omega
    | succ f ih =>
      intro i hi hf hI
      refine pk_le m i (fun z => ?_) (fun z => ?_)
      · have e : i = m := by omega
        rw [e] at hI
        refine pk_eq m 32 (fun w => h2 hI w) (fun w => pk_eq u v (fun y => ?_) (fun y => ⟨n + 1, l104 hI w (n + 1) 0 rc (by omega) (by omega) (fun j hj => by omega)⟩))
        exact h4 hI w (by rw [y]; exact hS.1) rc
      · obtain ⟨e1, e2⟩ := hE i z
        have nx : ¬ (EU i = u ∧ EV i = v) → wY_addEdge_41 post (nI u) (nI v) (nI c) (nI P) cp (nI n) (nI m) pl ck mk (hp_A W) (hp_A D) (hp_A EU) (hp_A EV) (hp_A EC) (hp_A RK) (hp_A OR) (hp_A PR) (hp_A ST) (hp_A FN) (hp_A rs) (hp_A rf) (hp_A us) (hp_A pc) (hp_A rc) f (nI (i + 1)) := fun q => ih (i + 1) (by omega) (by omega) (lt_s hI q)
        have hi32 : vp_in (nI i) 32 := pk_in i 32 (by omega)
        exact ⟨hi32, pk_eq (EU i) u (fun a => ⟨hi32, pk_eq (EV i) v (fun b => h3 ⟨i, z, a, b⟩) (fun b => hp_n1 (nx fun q => b q.2)) (hx := hp_rd (by omega))⟩) (fun a => hp_n1 (nx fun q => a q.1)) (hx := hp_rd (by omega))⟩
  exact br_f (nI_pos (by omega)) (br_f (nI_ge hu (by omega)) (br_f (nI_pos (by omega)) (br_t (nI_lt hv (by omega)) (br_f (nI_pos (by omega)) (br_t (nI_le (b := 100) hc (by decide)) ⟨m + 1, l41 (m + 1) 0 (by omega) (by omega) (fun e he => by omega)⟩)))))
end
