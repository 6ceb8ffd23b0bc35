/-! ===== the class: sorting ===== -/
theorem hp_d1 {a b : Nat} (ha : a < 2 ^ 31) (hb : b < 2 ^ 31) : (1 : Int32) * nI a ≤ 1 * nI b ↔ a ≤ b := by
  rw [Int32.one_mul, Int32.one_mul, nI_leI ha hb]
theorem hp_dm {a b : Nat} (ha : a < 2 ^ 31) (hb : b < 2 ^ 31) : (-1 : Int32) * nI a ≤ -1 * nI b ↔ b ≤ a := by
  rw [Int32.neg_mul, Int32.neg_mul, Int32.one_mul, Int32.one_mul, sb_nle ha hb]
section
variable {P n m : Nat} {cp pl sp nw : Int32} {W D EU EV EC RK OR PR ST FN BS PF RS RF : Nat → Nat}
theorem x_sort__order_rankOf {post : SX → Prop} {d : Int32} {G : Nat → Nat} (hn : n ≤ 16) (hc : ∀ x t, x < n → t < n → (d * nI (RK x) ≤ d * nI (RK t) ↔ ¬ G t < G x)) (h : ∀ l, hp_So n G l → (∀ j, n ≤ j → l j = OR j) → post (nI P, cp, nI n, nI m, pl, sp, nw, hp_A W, hp_A D, hp_A EU, hp_A EV, hp_A EC, hp_A RK, hp_A l, hp_A PR, hp_A ST, hp_A FN, hp_A BS, hp_A PF, hp_A RS, hp_A RF)) : wpX_sortTasks__order_rankOf post (nI P, cp, nI n, nI m, pl, sp, nw, hp_A W, hp_A D, hp_A EU, hp_A EV, hp_A EC, hp_A RK, hp_A OR, hp_A PR, hp_A ST, hp_A FN, hp_A BS, hp_A PF, hp_A RS, hp_A RF) d := by
  have inner : ∀ (t : Nat) (l0 : Nat → Nat), t < n → hp_So t G l0 → ∀ J : Int32 → (Nat → Int32) → (Nat → Int32) → (Nat → Int32) → (Nat → Int32) → (Nat → Int32) → (Nat → Int32) → (Nat → Int32) → (Nat → Int32) → (Nat → Int32) → (Nat → Int32) → (Nat → Int32) → (Nat → Int32) → (Nat → Int32) → (Nat → Int32) → Prop, (∀ l, hp_So (t + 1) G l → (∀ j, t + 1 ≤ j → l j = l0 j) → J (nI (t + 1)) (hp_A W) (hp_A D) (hp_A EU) (hp_A EV) (hp_A EC) (hp_A RK) (hp_A l) (hp_A PR) (hp_A ST) (hp_A FN) (hp_A BS) (hp_A PF) (hp_A RS) (hp_A RF)) →
      ∀ f q l, q < f → hp_In G l0 t q l → wX_sortTasks__order_rankOf_16 post J d (nI t) (nI P) cp (nI n) (nI m) pl sp nw f (nI q) (hp_A W) (hp_A D) (hp_A EU) (hp_A EV) (hp_A EC) (hp_A RK) (hp_A l) (hp_A PR) (hp_A ST) (hp_A FN) (hp_A BS) (hp_A PF) (hp_A RS) (hp_A RF) := by
    intro t l0 ht hS J hJ f
    induction f with
    | zero => intro q l h; omega
    | succ f ih =>
      intro q l hq hI
      have hqt := hI.1
      have hin : vp_in (nI q) 16 := pk_in q 16 (by omega)
      refine pk_le q 0 (fun z => ?_) (fun z => ?_)
      · obtain ⟨a, b⟩ := hp_Ine hS hI (Or.inl (by omega))
        exact ⟨hin, hp_nu (by omega) (hp_n1 (hJ _ a b))⟩
      · obtain ⟨q', rfl⟩ : ∃ q', q = q' + 1 := ⟨q - 1, by omega⟩
        have hl : l q' < t := by
          rw [hI.2.1 q' (by omega)]
          exact hS.1 q' (by omega)
        have h1 : vp_in (nI q') 16 := pk_in q' 16 (by omega)
        have h2 : vp_in (nI (l q')) 16 := pk_in (l q') 16 (by omega)
        have h3 : vp_in (nI t) 16 := pk_in t 16 (by omega)
        rw [nI_pred, hp_rd (f := l) (j := q') (by omega), hp_rd (f := RK) (j := l q') (by omega), hp_rd (f := RK) (j := t) (by omega)]
        refine ⟨h1, h2, h3, br_c (fun w => ?_) (fun w => ?_)⟩
        · rw [hc _ _ (by omega) (by omega)] at w
          obtain ⟨a, b⟩ := hp_Ine hS hI (Or.inr (by rw [Nat.add_sub_cancel]; exact w))
          exact ⟨hin, hp_nu (by omega) (hp_n1 (hJ _ a b))⟩
        · rw [hc _ _ (by omega) (by omega)] at w
          exact ⟨h1, hin, hp_nu (by omega) (nm_r (pk_m1 q') (ih q' _ (by omega) (hp_Ins hI (Classical.byContradiction w))))⟩
  have outer : ∀ f t l, t ≤ n → n - t < f → hp_So t G l → (∀ j, t ≤ j → l j = OR j) → wX_sortTasks__order_rankOf_3 post d (nI P) cp (nI n) (nI m) pl sp nw f (nI t) (hp_A W) (hp_A D) (hp_A EU) (hp_A EV) (hp_A EC) (hp_A RK) (hp_A l) (hp_A PR) (hp_A ST) (hp_A FN) (hp_A BS) (hp_A PF) (hp_A RS) (hp_A RF) := by
    intro f
    induction f with
    | zero => intro t l _ h; omega
    | succ f ih =>
      intro t l ht hf hS hl
      refine pk_le n t (fun z => ?_) (fun z => ?_)
      · have e : t = n := by omega
        subst e
        exact h l hS hl
      · exact ⟨t + 1, inner t l z hS _ (fun l' hS' hl' => ih (t + 1) l' (by omega) (by omega) hS' (fun j hj => by rw [hl' j hj]; exact hl j (by omega))) (t + 1) t l (by omega) (hp_In0 G l t)⟩
  exact ⟨n + 1, outer (n + 1) 0 OR (by omega) (by omega) (hp_so0 G OR) (fun _ _ => rfl)⟩
theorem x_sort__byStart_startOf {post : SX → Prop} {d : Int32} {G : Nat → Nat} (hn : n ≤ 16) (hc : ∀ x t, x < n → t < n → (d * nI (ST x) ≤ d * nI (ST t) ↔ ¬ G t < G x)) (h : ∀ l, hp_So n G l → (∀ j, n ≤ j → l j = BS j) → post (nI P, cp, nI n, nI m, pl, sp, nw, hp_A W, hp_A D, hp_A EU, hp_A EV, hp_A EC, hp_A RK, hp_A OR, hp_A PR, hp_A ST, hp_A FN, hp_A l, hp_A PF, hp_A RS, hp_A RF)) : wpX_sortTasks__byStart_startOf post (nI P, cp, nI n, nI m, pl, sp, nw, hp_A W, hp_A D, hp_A EU, hp_A EV, hp_A EC, hp_A RK, hp_A OR, hp_A PR, hp_A ST, hp_A FN, hp_A BS, hp_A PF, hp_A RS, hp_A RF) d := by
  have inner : ∀ (t : Nat) (l0 : Nat → Nat), t < n → hp_So t G l0 → ∀ J : Int32 → (Nat → Int32) → (Nat → Int32) → (Nat → Int32) → (Nat → Int32) → (Nat → Int32) → (Nat → Int32) → (Nat → Int32) → (Nat → Int32) → (Nat → Int32) → (Nat → Int32) → (Nat → Int32) → (Nat → Int32) → (Nat → Int32) → (Nat → Int32) → Prop, (∀ l, hp_So (t + 1) G l → (∀ j, t + 1 ≤ j → l j = l0 j) → J (nI (t + 1)) (hp_A W) (hp_A D) (hp_A EU) (hp_A EV) (hp_A EC) (hp_A RK) (hp_A OR) (hp_A PR) (hp_A ST) (hp_A FN) (hp_A l) (hp_A PF) (hp_A RS) (hp_A RF)) →
      ∀ f q l, q < f → hp_In G l0 t q l → wX_sortTasks__byStart_startOf_16 post J d (nI t) (nI P) cp (nI n) (nI m) pl sp nw f (nI q) (hp_A W) (hp_A D) (hp_A EU) (hp_A EV) (hp_A EC) (hp_A RK) (hp_A OR) (hp_A PR) (hp_A ST) (hp_A FN) (hp_A l) (hp_A PF) (hp_A RS) (hp_A RF) := by
    intro t l0 ht hS J hJ f
    induction f with
    | zero => intro q l h; omega
    | succ f ih =>
      intro q l hq hI
      have hqt := hI.1
      have hin : vp_in (nI q) 16 := pk_in q 16 (by omega)
      refine pk_le q 0 (fun z => ?_) (fun z => ?_)
      · obtain ⟨a, b⟩ := hp_Ine hS hI (Or.inl (by omega))
        exact ⟨hin, hp_nu (by omega) (hp_n1 (hJ _ a b))⟩
      · obtain ⟨q', rfl⟩ : ∃ q', q = q' + 1 := ⟨q - 1, by omega⟩
        have hl : l q' < t := by
          rw [hI.2.1 q' (by omega)]
          exact hS.1 q' (by omega)
        have h1 : vp_in (nI q') 16 := pk_in q' 16 (by omega)
        have h2 : vp_in (nI (l q')) 16 := pk_in (l q') 16 (by omega)
        have h3 : vp_in (nI t) 16 := pk_in t 16 (by omega)
        rw [nI_pred, hp_rd (f := l) (j := q') (by omega), hp_rd (f := ST) (j := l q') (by omega), hp_rd (f := ST) (j := t) (by omega)]
        refine ⟨h1, h2, h3, br_c (fun w => ?_) (fun w => ?_)⟩
        · rw [hc _ _ (by omega) (by omega)] at w
          obtain ⟨a, b⟩ := hp_Ine hS hI (Or.inr (by rw [Nat.add_sub_cancel]; exact w))
          exact ⟨hin, hp_nu (by omega) (hp_n1 (hJ _ a b))⟩
        · rw [hc _ _ (by omega) (by omega)] at w
          exact ⟨h1, hin, hp_nu (by omega) (nm_r (pk_m1 q') (ih q' _ (by omega) (hp_Ins hI (Classical.byContradiction w))))⟩
  have outer : ∀ f t l, t ≤ n → n - t < f → hp_So t G l → (∀ j, t ≤ j → l j = BS j) → wX_sortTasks__byStart_startOf_3 post d (nI P) cp (nI n) (nI m) pl sp nw f (nI t) (hp_A W) (hp_A D) (hp_A EU) (hp_A EV) (hp_A EC) (hp_A RK) (hp_A OR) (hp_A PR) (hp_A ST) (hp_A FN) (hp_A l) (hp_A PF) (hp_A RS) (hp_A RF) := by
    intro f
    induction f with
    | zero => intro t l _ h; omega
    | succ f ih =>
      intro t l ht hf hS hl
      refine pk_le n t (fun z => ?_) (fun z => ?_)
      · have e : t = n := by omega
        subst e
        exact h l hS hl
      · exact ⟨t + 1, inner t l z hS _ (fun l' hS' hl' => ih (t + 1) l' (by omega) (by omega) hS' (fun j hj => by rw [hl' j hj]; exact hl j (by omega))) (t + 1) t l (by omega) (hp_In0 G l t)⟩
  exact ⟨n + 1, outer (n + 1) 0 BS (by omega) (by omega) (hp_so0 G BS) (fun _ _ => rfl)⟩
/-! ===== the class: ranks ===== -/
theorem x_raiseRank {post : SX → Prop} {e : Nat} (G : hp_G P n m W EU EV EC) (he : e < m) (hr : hp_tc W (EU e) P + P * EC e + RK (EV e) ≤ 100000) (hu : RK (EU e) ≤ 100000)
    (h1 : RK (EU e) < hp_tc W (EU e) P + P * EC e + RK (EV e) → post (nI P, cp, nI n, nI m, pl, sp, nw, hp_A W, hp_A D, hp_A EU, hp_A EV, hp_A EC, hp_A (hp_u RK (EU e) (hp_tc W (EU e) P + P * EC e + RK (EV e))), hp_A OR, hp_A PR, hp_A ST, hp_A FN, hp_A BS, hp_A PF, hp_A RS, hp_A RF))
    (h0 : ¬ RK (EU e) < hp_tc W (EU e) P + P * EC e + RK (EV e) → post (nI P, cp, nI n, nI m, pl, sp, nw, hp_A W, hp_A D, hp_A EU, hp_A EV, hp_A EC, hp_A RK, hp_A OR, hp_A PR, hp_A ST, hp_A FN, hp_A BS, hp_A PF, hp_A RS, hp_A RF)) : wpX_raiseRank post (nI P, cp, nI n, nI m, pl, sp, nw, hp_A W, hp_A D, hp_A EU, hp_A EV, hp_A EC, hp_A RK, hp_A OR, hp_A PR, hp_A ST, hp_A FN, hp_A BS, hp_A PF, hp_A RS, hp_A RF) (nI e) := by
  obtain ⟨hP1, hP, hn, hm, hW, hE, hT⟩ := G
  obtain ⟨e1, e2, e3⟩ := hE e he
  have i32 : vp_in (nI e) 32 := pk_in e 32 (by omega)
  have u16 : vp_in (nI (EU e)) 16 := pk_in (EU e) 16 (by omega)
  have v16 : vp_in (nI (EV e)) 16 := pk_in (EV e) 16 (by omega)
  refine ⟨i32, hp_nr (by omega) (x_totalCost (by omega) hP ⟨i32, i32, ?_⟩)⟩
  rw [hp_rd (f := EV) (j := e) (by omega), hp_rd (f := EC) (j := e) (by omega), hp_rd (f := RK) (j := EV e) (by omega), pk_mul, nI_add, nI_add]
  refine ⟨v16, nm_e ⟨u16, ?_⟩⟩
  rw [hp_rd (f := RK) (j := EU e) (by omega)]
  exact pk_le (hp_tc W (EU e) P + P * EC e + RK (EV e)) (RK (EU e)) (fun z => h0 (by omega)) (fun z => ⟨u16, hp_nu (by omega) (h1 z)⟩)
theorem x_computeRanks {post : SX → Prop} {L R : Nat → Nat} (G : hp_G P n m W EU EV EC) (H : hp_Rk P n m W EU EV EC L R) (h : ∀ r, hp_XK P n m W EU EV EC L R RK n r → post (nI P, cp, nI n, nI m, pl, sp, nw, hp_A W, hp_A D, hp_A EU, hp_A EV, hp_A EC, hp_A r, hp_A OR, hp_A PR, hp_A ST, hp_A FN, hp_A BS, hp_A PF, hp_A RS, hp_A RF)) : wpX_computeRanks post (nI P, cp, nI n, nI m, pl, sp, nw, hp_A W, hp_A D, hp_A EU, hp_A EV, hp_A EC, hp_A RK, hp_A OR, hp_A PR, hp_A ST, hp_A FN, hp_A BS, hp_A PF, hp_A RS, hp_A RF) := by
  have G' := G
  obtain ⟨hP1, hP, hn, hm, hW, hE, hT⟩ := G'
  have hRb := H.2.2.2
  have inner : ∀ (k : Nat) (J : Int32 → Int32 → Int32 → Int32 → Int32 → Int32 → Int32 → Int32 → (Nat → Int32) → (Nat → Int32) → (Nat → Int32) → (Nat → Int32) → (Nat → Int32) → (Nat → Int32) → (Nat → Int32) → (Nat → Int32) → (Nat → Int32) → (Nat → Int32) → (Nat → Int32) → (Nat → Int32) → (Nat → Int32) → (Nat → Int32) → Prop), (∀ r, hp_XE P n m W EU EV EC L R RK k m r → J (nI (k + 1)) (nI P) cp (nI n) (nI m) pl sp nw (hp_A W) (hp_A D) (hp_A EU) (hp_A EV) (hp_A EC) (hp_A r) (hp_A OR) (hp_A PR) (hp_A ST) (hp_A FN) (hp_A BS) (hp_A PF) (hp_A RS) (hp_A RF)) → ∀ f i r, i ≤ m → m - i < f → hp_XE P n m W EU EV EC L R RK k i r → wX_computeRanks_39 post J (nI k) f (nI i) (nI P) cp (nI n) (nI m) pl sp nw (hp_A W) (hp_A D) (hp_A EU) (hp_A EV) (hp_A EC) (hp_A r) (hp_A OR) (hp_A PR) (hp_A ST) (hp_A FN) (hp_A BS) (hp_A PF) (hp_A RS) (hp_A RF) := by
    intro k J hJ f
    induction f with
    | zero => intro i r _ h; omega
    | succ f ih =>
      intro i r hi hf hI
      refine pk_le m i (fun z => ?_) (fun z => ?_)
      · have e : i = m := by omega
        rw [e] at hI
        exact hp_n1 (hJ r hI)
      · obtain ⟨e1, e2, e3⟩ := hE i z
        obtain ⟨q1, q2, q3⟩ := hp_XEs H e1 e2 z hI
        have q4 := hRb _ e1
        have q5 := (hI.1.1 _ e1).2
        refine x_raiseRank G z (by omega) (by omega) (fun w => ?_) (fun w => ?_)
        · exact hp_n1 (ih (i + 1) _ (by omega) (by omega) (q2 w))
        · exact hp_n1 (ih (i + 1) _ (by omega) (by omega) (q3 w))
  have outer : ∀ f k r, k ≤ n → n - k < f → hp_XK P n m W EU EV EC L R RK k r → wX_computeRanks_29 post f (nI k) (nI P) cp (nI n) (nI m) pl sp nw (hp_A W) (hp_A D) (hp_A EU) (hp_A EV) (hp_A EC) (hp_A r) (hp_A OR) (hp_A PR) (hp_A ST) (hp_A FN) (hp_A BS) (hp_A PF) (hp_A RS) (hp_A RF) := by
    intro f
    induction f with
    | zero => intro k r _ h; omega
    | succ f ih =>
      intro k r hk hf hK
      refine pk_le n k (fun z => ?_) (fun z => ?_)
      · have e : k = n := by omega
        rw [e] at hK
        exact h r hK
      · exact ⟨m + 1, inner k _ (fun r' hE' => ih (k + 1) r' (by omega) (by omega) (hp_XEe H hE')) (m + 1) 0 r (by omega) (by omega) ⟨hK, fun e he => by omega⟩⟩
  have init : ∀ f t r, t ≤ n → n - t < f → (∀ j, j < t → r j = hp_tc W j P) → (∀ j, n ≤ j → r j = RK j) → wX_computeRanks_2 post (nI P) cp (nI n) (nI m) pl sp nw f (nI t) (hp_A W) (hp_A D) (hp_A EU) (hp_A EV) (hp_A EC) (hp_A r) (hp_A OR) (hp_A PR) (hp_A ST) (hp_A FN) (hp_A BS) (hp_A PF) (hp_A RS) (hp_A RF) := by
    intro f
    induction f with
    | zero => intro t r _ h; omega
    | succ f ih =>
      intro t r ht hf h1 h2
      refine pk_le n t (fun z => ?_) (fun z => ?_)
      · have e : t = n := by omega
        rw [e] at h1
        exact ⟨n + 1, outer (n + 1) 0 r (by omega) (by omega) (hp_XK0 H h1 h2)⟩
      · refine x_totalCost (by omega) hP ⟨pk_in t 16 (by omega), hp_nu (by omega) (hp_n1 (ih (t + 1) _ (by omega) (by omega) (fun j hj => ?_) (fun j hj => ?_)))⟩
        · by_cases e : j = t
          · subst e; rw [hp_us]
          · rw [hp_un e]; exact h1 j (by omega)
        · rw [hp_un (by omega)]; exact h2 j hj
  exact ⟨n + 1, init (n + 1) 0 RK (by omega) (by omega) (fun j hj => by omega) (fun _ _ => rfl)⟩
end
