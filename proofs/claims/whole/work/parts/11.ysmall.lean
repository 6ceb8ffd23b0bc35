/-! ===== the reference: readers ===== -/
theorem hp_nb1 : vp_nar .boolean 1 = nI 1 := by decide
theorem hp_nb0 : vp_nar .boolean 0 = nI 0 := by decide
theorem hp_nuB1 {f : Nat → Nat} {j : Nat} {Q : (Nat → Int32) → Prop} (h : j < 2 ^ 31) (q : Q (hp_A (hp_u f j 1))) : ∀ a, a = upd (hp_A f) (nI j).toNatClampNeg (vp_nar .boolean 1) → Q a :=
  nm_r (by rw [nI_clamp h, hp_nb1, hp_uA]) q
theorem hp_nuB0 {f : Nat → Nat} {j : Nat} {Q : (Nat → Int32) → Prop} (h : j < 2 ^ 31) (q : Q (hp_A (hp_u f j 0))) : ∀ a, a = upd (hp_A f) (nI j).toNatClampNeg (vp_nar .boolean 0) → Q a :=
  nm_r (by rw [nI_clamp h, hp_nb0, hp_uA]) q
/-- a cell that is 0 or 1 -/
theorem hp_z {f : Nat → Nat} {j : Nat} {U A B : Prop} (h : j < 2 ^ 31) (h1 : f j ≤ 1) (hU : f j = 1 ↔ U) (a : ¬ U → A) (b : U → B) : (hp_A f (nI j).toNatClampNeg = 0 → A) ∧ (¬ hp_A f (nI j).toNatClampNeg = 0 → B) :=
  pk_eq (f j) 0 (fun z => a (fun u => by have := hU.mpr u; omega)) (fun z => b (hU.mp (by omega))) (hx := hp_rd h)
theorem hp_m1n : (-1 : Int32) < 0 := by decide
section
variable {P n m : Nat} {cp pl ck mk : Int32} {W D EU EV EC RK OR PR ST FN rs rf us pc rc : Nat → Nat}
theorem y_bad {post : Int32 → Prop} {v : Int32} (h1 : v < 1 ∨ 100 < v → post 1) (h0 : ¬ v < 1 → ¬ 100 < v → post 0) : wpY_bad post (nI P, cp, nI n, nI m, pl, ck, mk, hp_A W, hp_A D, hp_A EU, hp_A EV, hp_A EC, hp_A RK, hp_A OR, hp_A PR, hp_A ST, hp_A FN, hp_A rs, hp_A rf, hp_A us, hp_A pc, hp_A rc) v :=
  br_c (fun z => h1 (Or.inl z)) (fun z => br_c (fun y => h0 z (Int32.not_lt.mpr y)) (fun y => h1 (Or.inr (Int32.not_le.mp y))))
theorem y_rankOnce {post : Int32 → Prop} {t : Nat} (G : hp_G P n m W EU EV EC) (ht : t < n) (hR : ∀ j, j < n → RK j ≤ 20000) (h : post (nI (hp_F P m W EU EV EC RK t))) : wpY_rankOnce post (nI P, cp, nI n, nI m, pl, ck, mk, hp_A W, hp_A D, hp_A EU, hp_A EV, hp_A EC, hp_A RK, hp_A OR, hp_A PR, hp_A ST, hp_A FN, hp_A rs, hp_A rf, hp_A us, hp_A pc, hp_A rc) (nI t) := by
  obtain ⟨hP1, hP, hn, hm, hW, hE, hT⟩ := G
  have bnd : ∀ i, i ≤ m → hp_mx EU t (fun e => P * EC e + RK (EV e)) 0 i ≤ 30000 := fun i hi => hp_mxL (by omega) i (fun e he q => by
    have a := hR _ (hE e (by omega)).2.1
    have b := hp_Pm hP (hE e (by omega)).2.2
    show P * EC e + RK (EV e) ≤ 30000
    omega)
  have k2 : ∀ f i, i ≤ m → m - i < f → wY_rankOnce_36 post (nI t) (nI (hp_tc W t P)) (nI P) cp (nI n) (nI m) pl ck mk (hp_A W) (hp_A D) (hp_A EU) (hp_A EV) (hp_A EC) (hp_A RK) (hp_A OR) (hp_A PR) (hp_A ST) (hp_A FN) (hp_A rs) (hp_A rf) (hp_A us) (hp_A pc) (hp_A rc) f (nI (hp_mx EU t (fun e => P * EC e + RK (EV e)) 0 i)) (nI i) := by
    intro f
    induction f with
    | zero => intro i _ h; omega
    | succ f ih =>
      intro i hi hf
      have bi := bnd i hi
      refine pk_le m i (fun z => ?_) (fun z => ?_)
      · have e : i = m := by omega
        rw [e, nI_add]
        exact h
      · obtain ⟨e1, e2, e3⟩ := hE i z
        have r1 := hR _ e2
        have r2 := hp_Pm hP e3
        have hi32 : vp_in (nI i) 32 := pk_in i 32 (by omega)
        have nx := ih (i + 1) (by omega) (by omega)
        refine ⟨hi32, pk_eq (EU i) t (fun a => ⟨hi32, hi32, ?_⟩) (fun a => hp_n1 ?_) (hx := hp_rd (by omega))⟩
        · rw [hp_rd (f := EV) (j := i) (by omega), hp_rd (f := EC) (j := i) (by omega), hp_rd (f := RK) (j := EV i) (by omega), pk_mul, nI_add]
          refine ⟨pk_in (EV i) 16 (by omega), nm_e (pk_le (P * EC i + RK (EV i)) (hp_mx EU t (fun e => P * EC e + RK (EV e)) 0 i) (fun w => hp_n1 ?_) (fun w => hp_n1 ?_))⟩
          · rw [hp_mx2 a (show ¬ hp_mx EU t (fun e => P * EC e + RK (EV e)) 0 i < P * EC i + RK (EV i) by omega)] at nx
            exact nx
          · rw [hp_mx1 a (show hp_mx EU t (fun e => P * EC e + RK (EV e)) 0 i < P * EC i + RK (EV i) from w)] at nx
            exact nx
        · rw [hp_mx3 a] at nx
          exact nx
  have k1 : ∀ f p, p ≤ P → P - p < f → wY_rankOnce_4 post (nI t) (nI P) cp (nI n) (nI m) pl ck mk (hp_A W) (hp_A D) (hp_A EU) (hp_A EV) (hp_A EC) (hp_A RK) (hp_A OR) (hp_A PR) (hp_A ST) (hp_A FN) (hp_A rs) (hp_A rf) (hp_A us) (hp_A pc) (hp_A rc) f (nI (hp_tc W t p)) (nI p) := by
    intro f
    induction f with
    | zero => intro p _ h; omega
    | succ f ih =>
      intro p hp hf
      refine pk_le P p (fun z => ?_) (fun z => ?_)
      · have e : p = P := by omega
        rw [e]
        exact ⟨m + 1, k2 (m + 1) 0 (by omega) (by omega)⟩
      · rw [hp_ix, hp_rd (by omega), nI_add]
        exact ⟨pk_in (t * 4 + p) 64 (by omega), nm_e (hp_n1 (ih (p + 1) (by omega) (by omega)))⟩
  exact ⟨P + 1, k1 (P + 1) 0 (by omega) (by omega)⟩
theorem y_free {post : Int32 → Prop} {U : Nat → Prop} {p s d : Nat} (hn : n ≤ 16) (hp : p < 4) (hs : s ≤ 30000) (hd : d ≤ 100) (hU : ∀ x, x < n → pc x ≤ 1 ∧ (pc x = 1 ↔ U x)) (hB : ∀ x, x < n → U x → PR x < 4 ∧ ST x ≤ 10000 ∧ FN x ≤ 10000)
    (h1 : (∀ x, x < n → U x → PR x = p → ¬ (s < FN x ∧ ST x < s + d)) → post 1) (h0 : (¬ ∀ x, x < n → U x → PR x = p → ¬ (s < FN x ∧ ST x < s + d)) → post 0) : wpY_free post (nI P, cp, nI n, nI m, pl, ck, mk, hp_A W, hp_A D, hp_A EU, hp_A EV, hp_A EC, hp_A RK, hp_A OR, hp_A PR, hp_A ST, hp_A FN, hp_A rs, hp_A rf, hp_A us, hp_A pc, hp_A rc) (nI p) (nI s) (nI d) := by
  have key : ∀ f i, i ≤ n → n - i < f → (∀ x, x < i → U x → PR x = p → ¬ (s < FN x ∧ ST x < s + d)) → wY_free_3 post (nI p) (nI s) (nI d) (nI P) cp (nI n) (nI m) pl ck mk (hp_A W) (hp_A D) (hp_A EU) (hp_A EV) (hp_A EC) (hp_A RK) (hp_A OR) (hp_A PR) (hp_A ST) (hp_A FN) (hp_A rs) (hp_A rf) (hp_A us) (hp_A pc) (hp_A rc) f (nI i) := by
    intro f
    induction f with
    | zero => intro i _ h; omega
    | succ f ih =>
      intro i hi hf hI
      refine pk_le n i (fun z => ?_) (fun z => ?_)
      · have e : i = n := by omega
        rw [e] at hI
        exact h1 hI
      · have h16 : vp_in (nI i) 16 := pk_in i 16 (by omega)
        have nx : (U i → PR i = p → ¬ (s < FN i ∧ ST i < s + d)) → wY_free_3 post (nI p) (nI s) (nI d) (nI P) cp (nI n) (nI m) pl ck mk (hp_A W) (hp_A D) (hp_A EU) (hp_A EV) (hp_A EC) (hp_A RK) (hp_A OR) (hp_A PR) (hp_A ST) (hp_A FN) (hp_A rs) (hp_A rf) (hp_A us) (hp_A pc) (hp_A rc) f (nI (i + 1)) := fun q => ih (i + 1) (by omega) (by omega) (lt_s hI q)
        refine ⟨h16, hp_z (by omega) (hU i z).1 (hU i z).2 (fun w => hp_n1 (nx fun q => absurd q w)) (fun w => ⟨h16, ?_⟩)⟩
        obtain ⟨b1, b2, b3⟩ := hB i z w
        refine pk_eq (PR i) p (fun a => ⟨h16, ?_⟩) (fun a => hp_n1 (nx fun _ q => absurd q a)) (hx := hp_rd (by omega))
        rw [nI_add, hp_rd (f := FN) (j := i) (by omega), hp_rd (f := ST) (j := i) (by omega)]
        refine pk_le (FN i) s (fun c => hp_n1 (nx fun _ _ q => by omega)) (fun c => ⟨h16, pk_le (s + d) (ST i) (fun c2 => hp_n1 (nx fun _ _ q => by omega)) (fun c2 => ?_)⟩)
        exact h0 (fun q => q i z w a ⟨c, c2⟩)
  exact ⟨n + 1, key (n + 1) 0 (by omega) (by omega) (fun x hx => by omega)⟩
/-- -1 for nothing -/
def hp_o : Option Nat → Int32
  | none => -1
  | some b => nI b
theorem y_est {post : Int32 → Prop} {i p s : Nat} {a : Nat → Nat} (G : hp_G P n m W EU EV EC) (hi : i < n) (ha : ∀ j, j ≤ i → a j < n) (hp : p < P) (hU : ∀ x, x < n → pc x ≤ 1 ∧ (pc x = 1 ↔ ∃ j, j < i ∧ a j = x)) (hB : hp_Bf n m EU EV a)
    (hF : ∀ j, j < i → PR (a j) < 4 ∧ ST (a j) ≤ 10000 ∧ FN (a j) ≤ 10000) (hs : s ≤ 10000) (hL : hp_Le a PR ST FN i p (W (a i * 4 + p)) (hp_mx EV (a i) (hp_ar EU EC PR FN p) 0 m) s) (h : post (nI s)) : wpY_est post (nI P, cp, nI n, nI m, pl, ck, mk, hp_A W, hp_A D, hp_A EU, hp_A EV, hp_A EC, hp_A RK, hp_A OR, hp_A PR, hp_A ST, hp_A FN, hp_A rs, hp_A rf, hp_A us, hp_A pc, hp_A rc) (nI (a i)) (nI p) := by
  obtain ⟨hP1, hP, hn, hm, hW, hE, hT⟩ := G
  have hai := ha i (Nat.le_refl _)
  have hBU : ∀ x, x < n → (∃ j, j < i ∧ a j = x) → PR x < 4 ∧ ST x ≤ 10000 ∧ FN x ≤ 10000 := fun x _ ⟨j, hj, e⟩ => by rw [← e]; exact hF j hj
  have hd := (hW _ _ hai hp).2
  have hUp : ∀ e, e < m → EV e = a i → ∃ j, j < i ∧ a j = EU e := fun e he q => hB e i he hi q
  have bnd : ∀ q, q ≤ m → hp_mx EV (a i) (hp_ar EU EC PR FN p) 0 q ≤ 20000 := fun q hq => hp_mxL (by omega) q (fun e he w => by
    have x := (hBU _ (hE e (by omega)).1 (hUp e (by omega) w)).2.2
    have b := (hE e (by omega)).2.2
    unfold hp_ar
    split <;> omega)
  have scan : ∀ ready, ready ≤ 20000 → hp_Le a PR ST FN i p (W (a i * 4 + p)) ready s → ∀ f x o, x ≤ n → n - x < f → hp_Es (fun x => ∃ j, j < i ∧ a j = x) PR FN p ready s x o → (∀ b, o = some b → b ≤ 20000) → wY_est_128 post (nI p) (nI ready) (nI (W (a i * 4 + p))) (nI P) cp (nI n) (nI m) pl ck mk (hp_A W) (hp_A D) (hp_A EU) (hp_A EV) (hp_A EC) (hp_A RK) (hp_A OR) (hp_A PR) (hp_A ST) (hp_A FN) (hp_A rs) (hp_A rf) (hp_A us) (hp_A pc) (hp_A rc) f (hp_o o) (nI x) := by
    intro ready hr hL f
    induction f with
    | zero => intro x o _ h; omega
    | succ f ih =>
      intro x o hx hf hI ho
      refine pk_le n x (fun z => ?_) (fun z => ?_)
      · have e : x = n := by omega
        rw [e] at hI
        rw [hp_EsE hL (fun j hj => ha j (by omega)) (fun j hj => ⟨j, hj, rfl⟩) hI]
        exact h
      · have h16 : vp_in (nI x) 16 := pk_in x 16 (by omega)
        have skip : (ready < s → o ≠ some s → (∃ j, j < i ∧ a j = x) → PR x = p → FN x = s → False) → wY_est_128 post (nI p) (nI ready) (nI (W (a i * 4 + p))) (nI P) cp (nI n) (nI m) pl ck mk (hp_A W) (hp_A D) (hp_A EU) (hp_A EV) (hp_A EC) (hp_A RK) (hp_A OR) (hp_A PR) (hp_A ST) (hp_A FN) (hp_A rs) (hp_A rf) (hp_A us) (hp_A pc) (hp_A rc) f (hp_o o) (nI (x + 1)) := fun q => ih (x + 1) o (by omega) (by omega) (hp_EsK hI q) ho
        refine ⟨h16, hp_z (by omega) (hU x z).1 (hU x z).2 (fun w => hp_n1 (skip fun _ _ q _ _ => w q)) (fun w => ⟨h16, ?_⟩)⟩
        obtain ⟨b1, b2, b3⟩ := hBU x z w
        refine pk_eq (PR x) p (fun c => ⟨h16, ?_⟩) (fun c => hp_n1 (skip fun _ _ _ q _ => c q)) (hx := hp_rd (by omega))
        refine pk_le (FN x) ready (fun c2 => hp_n1 (skip fun _ _ _ _ q => by omega)) (fun c2 => ?_) (hx := hp_rd (by omega))
        have tk : (∀ b, o = some b → FN x < b) → wY_est_186 post (wY_est_128 post (nI p) (nI ready) (nI (W (a i * 4 + p))) (nI P) cp (nI n) (nI m) pl ck mk (hp_A W) (hp_A D) (hp_A EU) (hp_A EV) (hp_A EC) (hp_A RK) (hp_A OR) (hp_A PR) (hp_A ST) (hp_A FN) (hp_A rs) (hp_A rf) (hp_A us) (hp_A pc) (hp_A rc) f) (nI p) (nI ready) (nI (W (a i * 4 + p))) (hp_o o) (nI x) (nI P) cp (nI n) (nI m) pl ck mk (hp_A W) (hp_A D) (hp_A EU) (hp_A EV) (hp_A EC) (hp_A RK) (hp_A OR) (hp_A PR) (hp_A ST) (hp_A FN) (hp_A rs) (hp_A rf) (hp_A us) (hp_A pc) (hp_A rc) := by
          intro hb
          refine ⟨h16, ?_⟩
          rw [hp_rd (f := FN) (j := x) (by omega)]
          refine y_free (U := fun x => ∃ j, j < i ∧ a j = x) hn (by omega) (by omega) hd hU hBU (fun q => br_f (by decide) ⟨h16, nm_e (hp_n1 ?_)⟩) (fun q => br_t rfl (hp_n1 (skip fun _ _ _ _ e => ?_)))
          · exact ih (x + 1) (some (FN x)) (by omega) (by omega) (hp_EsT hL hI c2 hb ((hp_FrU (fun j hj => ha j (by omega)) (fun x _ => Iff.rfl)).mpr q)) (fun b e => by cases e; omega)
          · refine q ((hp_FrU (fun j hj => ha j (by omega)) (fun x _ => Iff.rfl)).mp ?_)
            rw [e]
            exact hL.2.1
        cases o with
        | none => exact br_t hp_m1n (tk (fun b e => (nomatch e)))
        | some b =>
          have hb := ho b rfl
          refine br_f (nI_pos (by omega)) ⟨h16, pk_le b (FN x) (fun w2 => hp_n1 (skip fun _ q _ _ e => ?_)) (fun w2 => tk (fun b' e => by cases e; exact w2)) (hy := hp_rd (by omega))⟩
          have := hI.1 b rfl
          exact q (by rw [show b = s by omega])
  have ready : ∀ f q, q ≤ m → m - q < f → wY_est_5 post (nI (a i)) (nI p) (nI P) cp (nI n) (nI m) pl ck mk (hp_A W) (hp_A D) (hp_A EU) (hp_A EV) (hp_A EC) (hp_A RK) (hp_A OR) (hp_A PR) (hp_A ST) (hp_A FN) (hp_A rs) (hp_A rf) (hp_A us) (hp_A pc) (hp_A rc) f (nI (hp_mx EV (a i) (hp_ar EU EC PR FN p) 0 q)) (nI q) := by
    intro f
    induction f with
    | zero => intro q _ h; omega
    | succ f ih =>
      intro q hq hf
      have bi := bnd q hq
      refine pk_le m q (fun z => ?_) (fun z => ?_)
      · have e : q = m := by omega
        rw [e] at bi ⊢
        rw [hp_ix, hp_rd (by omega)]
        refine ⟨pk_in (a i * 4 + p) 64 (by omega), nm_e (y_free (U := fun x => ∃ j, j < i ∧ a j = x) hn (by omega) (by omega) hd hU hBU (fun w => br_f (by decide) ⟨n + 1, ?_⟩) (fun w => br_t rfl ⟨n + 1, ?_⟩))⟩
        · exact scan _ bi hL (n + 1) 0 (some _) (by omega) (by omega) (hp_EsA hL ((hp_FrU (fun j hj => ha j (by omega)) (fun x _ => Iff.rfl)).mpr w)) (fun b e => by cases e; exact bi)
        · exact scan _ bi hL (n + 1) 0 none (by omega) (by omega) (hp_EsB hL (fun y => w ((hp_FrU (fun j hj => ha j (by omega)) (fun x _ => Iff.rfl)).mp y))) (fun b e => (nomatch e))
      · obtain ⟨e1, e2, e3⟩ := hE q z
        have hi32 : vp_in (nI q) 32 := pk_in q 32 (by omega)
        have hu16 : vp_in (nI (EU q)) 16 := pk_in (EU q) 16 (by omega)
        have nx := ih (q + 1) (by omega) (by omega)
        refine ⟨hi32, pk_eq (EV q) (a i) (fun c => ⟨hi32, ?_⟩) (fun c => hp_n1 ?_) (hx := hp_rd (by omega))⟩
        · have up := hUp q z c
          obtain ⟨b1, b2, b3⟩ := hBU _ e1 up
          rw [hp_rd (f := EU) (j := q) (by omega)]
          have J : ∀ w1 w2, w1 + w2 = hp_ar EU EC PR FN p q → w1 + w2 ≤ 10100 → wY_est_78 post (wY_est_5 post (nI (a i)) (nI p) (nI P) cp (nI n) (nI m) pl ck mk (hp_A W) (hp_A D) (hp_A EU) (hp_A EV) (hp_A EC) (hp_A RK) (hp_A OR) (hp_A PR) (hp_A ST) (hp_A FN) (hp_A rs) (hp_A rf) (hp_A us) (hp_A pc) (hp_A rc) f) (nI (a i)) (nI p) (nI (hp_mx EV (a i) (hp_ar EU EC PR FN p) 0 q)) (nI q) (nI w2) (nI w1) (nI P) cp (nI n) (nI m) pl ck mk (hp_A W) (hp_A D) (hp_A EU) (hp_A EV) (hp_A EC) (hp_A RK) (hp_A OR) (hp_A PR) (hp_A ST) (hp_A FN) (hp_A rs) (hp_A rf) (hp_A us) (hp_A pc) (hp_A rc) := by
            intro w1 w2 hw hb
            refine nm_r (nI_add w1 w2) (pk_le (w1 + w2) (hp_mx EV (a i) (hp_ar EU EC PR FN p) 0 q) (fun y => hp_n1 ?_) (fun y => hp_n1 ?_))
            · rw [hp_mx2 c (by omega)] at nx
              exact nx
            · rw [hp_mx1 c (by omega)] at nx
              rw [hw]
              exact nx
          refine ⟨hu16, hp_z (by omega) (hU _ e1).1 (hU _ e1).2 (fun w => absurd up w) (fun _ => ⟨hi32, nm_e ⟨hu16, hu16, ?_⟩⟩)⟩
          rw [hp_rd (f := FN) (j := EU q) (by omega), hp_rd (f := EC) (j := q) (by omega)]
          refine pk_eq (PR (EU q)) p (fun b => J _ 0 ?_ (by omega)) (fun b => ⟨hi32, J _ _ ?_ (by omega)⟩) (hx := hp_rd (by omega))
          · unfold hp_ar
            rw [if_pos b]
          · unfold hp_ar
            rw [if_neg b]
        · rw [hp_mx3 c] at nx
          exact nx
  exact ⟨m + 1, ready (m + 1) 0 (by omega) (by omega)⟩
end
