section
variable {P n m : Nat} {cp pl sp nw : Int32} {W D EU EV EC RK OR PR ST FN BS PF RS RF : Nat → Nat}
/-! ===== the class: the replay, the plan, the count ===== -/
theorem x_computeReplay {post : SX → Prop} (G : hp_G P n m W EU EV EC) (L : hp_Pl P n m W EU EV PR ST FN) (S : hp_So n ST BS) (hD : ∀ t, t < n → D t ≤ 100)
    (h : ∀ PF' RS' RF', hp_Rp n m W D EU EV EC PR ST RS' RF' → post (nI P, cp, nI n, nI m, pl, sp, nw, hp_A W, hp_A D, hp_A EU, hp_A EV, hp_A EC, hp_A RK, hp_A OR, hp_A PR, hp_A ST, hp_A FN, hp_A BS, hp_A PF', hp_A RS', hp_A RF')) : wpX_computeReplay post (nI P, cp, nI n, nI m, pl, sp, nw, hp_A W, hp_A D, hp_A EU, hp_A EV, hp_A EC, hp_A RK, hp_A OR, hp_A PR, hp_A ST, hp_A FN, hp_A BS, hp_A PF, hp_A RS, hp_A RF) := by
  have G' := G
  obtain ⟨hP1, hP, hn, hm, hW, hE, hT⟩ := G'
  have loop : ∀ f i PF' RS' RF', i ≤ n → n - i < f → hp_XR P n m W D EU EV EC PR ST BS i PF' RS' RF' → wX_computeReplay_25 post (nI P) cp (nI n) (nI m) pl sp nw f (nI i) (hp_A W) (hp_A D) (hp_A EU) (hp_A EV) (hp_A EC) (hp_A RK) (hp_A OR) (hp_A PR) (hp_A ST) (hp_A FN) (hp_A BS) (hp_A PF') (hp_A RS') (hp_A RF') := by
    intro f
    induction f with
    | zero => intro i PF' RS' RF' _ h; omega
    | succ f ih =>
      intro i PF' RS' RF' hi hf hI
      refine pk_le n i (fun z => ?_) (fun z => ?_)
      · have e : i = n := by omega
        rw [e] at hI
        exact h PF' RS' RF' (hp_XRe hn S hI)
      · have hb := S.1 i z
        obtain ⟨l1, l2, l3⟩ := L.1 _ hb
        obtain ⟨b1, b2⟩ := hp_XRb G L S z hI
        have hi16 : vp_in (nI i) 16 := pk_in i 16 (by omega)
        have hb16 : vp_in (nI (BS i)) 16 := pk_in (BS i) 16 (by omega)
        have hp4 : vp_in (nI (PR (BS i))) 4 := pk_in (PR (BS i)) 4 (by omega)
        have J : ∀ s, s = hp_mx EV (BS i) (hp_ar EU EC PR RF' (PR (BS i))) (PF' (PR (BS i))) m → wX_computeReplay_81 post (wX_computeReplay_25 post (nI P) cp (nI n) (nI m) pl sp nw f) (nI i) (nI (BS i)) (nI (PR (BS i))) (nI s) (nI P) cp (nI n) (nI m) pl sp nw (hp_A W) (hp_A D) (hp_A EU) (hp_A EV) (hp_A EC) (hp_A RK) (hp_A OR) (hp_A PR) (hp_A ST) (hp_A FN) (hp_A BS) (hp_A PF') (hp_A RS') (hp_A RF') := by
          intro s hs
          obtain ⟨q1, q2⟩ := hp_XRs G L S hD z hI hs
          refine x_costOn (by omega) (by omega) ⟨hb16, ?_⟩
          rw [hp_rd (f := D) (j := BS i) (by omega), nI_add, nI_add]
          exact nm_e ⟨hb16, hp_nu (by omega) ⟨hb16, hp_nu (by omega) ⟨hp4, hp_nu (by omega) (hp_n1 (ih (i + 1) _ _ _ (by omega) (by omega) q2))⟩⟩⟩
        have rb : hp_mx EV (BS i) (hp_ar EU EC PR RF' (PR (BS i))) 0 m ≤ 10000 := hp_mxL (by omega) m (fun e he q => by
          have a := b1 e he q
          have b := (hE e he).2.2
          unfold hp_ar
          split <;> omega)
        refine ⟨hi16, hp_nr (by omega) ⟨hb16, hp_nr (by omega) (x_dataReady__replayedFinish hm (by omega) (by omega) (fun e he => ⟨by have := (hE e he).1; omega, by have := (hE e he).2.1; omega, (hE e he).2.2⟩) (fun e he q => ⟨by have := b1 e he q; omega, by have := (L.1 _ (hE e he).1).1; omega⟩) ⟨hp4, ?_⟩)⟩⟩
        rw [hp_rd (f := PF') (j := PR (BS i)) (by omega)]
        have mz := hp_mxZ (K := EV) (t := BS i) (g := hp_ar EU EC PR RF' (PR (BS i))) (b := PF' (PR (BS i))) m
        refine pk_le (PF' (PR (BS i))) (hp_mx EV (BS i) (hp_ar EU EC PR RF' (PR (BS i))) 0 m) (fun w => J _ ?_) (fun w => ⟨hp4, J _ ?_⟩)
        · rw [mz, if_neg (by omega)]
        · rw [mz, if_pos w]
  have init : ∀ f p PF', p ≤ P → P - p < f → (∀ q, q < p → PF' q = 0) → wX_computeReplay_2 post (nI P) cp (nI n) (nI m) pl sp nw f (nI p) (hp_A W) (hp_A D) (hp_A EU) (hp_A EV) (hp_A EC) (hp_A RK) (hp_A OR) (hp_A PR) (hp_A ST) (hp_A FN) (hp_A BS) (hp_A PF') (hp_A RS) (hp_A RF) := by
    intro f
    induction f with
    | zero => intro p PF' _ h; omega
    | succ f ih =>
      intro p PF' hp hf hI
      refine pk_le P p (fun z => ?_) (fun z => ?_)
      · have e : p = P := by omega
        rw [e] at hI
        exact ⟨n + 1, loop (n + 1) 0 PF' RS RF (by omega) (by omega) (hp_XR0 hI)⟩
      · refine ⟨pk_in p 4 (by omega), hp_nu (v := 0) (by omega) (hp_n1 (ih (p + 1) _ (by omega) (by omega) (fun q hq => ?_)))⟩
        by_cases e : q = p
        · subst e; rw [hp_us]
        · rw [hp_un e]; exact hI q (by omega)
  exact ⟨P + 1, init (P + 1) 0 PF (by omega) (by omega) (fun q hq => by omega)⟩
theorem x_plan {post : Int32 → SX → Prop} {L R : Nat → Nat} (G : hp_G P n m W EU EV EC) (hD : ∀ t, t < n → D t ≤ 100) (H : hp_Rk P n m W EU EV EC L R) (hn0 : 0 < n)
    (h : ∀ r a BS' PF' RS' RF', hp_XK P n m W EU EV EC L R RK n r → hp_So n (fun x => 20000 - r x) a → (∀ j, n ≤ j → a j = OR j) → hp_Bf n m EU EV a →
      hp_So n (hp_Z P m W EU EV EC a PR ST FN n).2.1 BS' →
      hp_Rp n m W D EU EV EC (hp_Z P m W EU EV EC a PR ST FN n).1 (hp_Z P m W EU EV EC a PR ST FN n).2.1 RS' RF' →
      post (nI (hp_Z P m W EU EV EC a PR ST FN n).2.2.2) (nI P, cp, nI n, nI m, 1, nI (hp_Z P m W EU EV EC a PR ST FN n).2.2.2, 0, hp_A W, hp_A D, hp_A EU, hp_A EV, hp_A EC, hp_A r, hp_A a, hp_A ((hp_Z P m W EU EV EC a PR ST FN n).1), hp_A ((hp_Z P m W EU EV EC a PR ST FN n).2.1), hp_A ((hp_Z P m W EU EV EC a PR ST FN n).2.2.1), hp_A BS', hp_A PF', hp_A RS', hp_A RF')) :
    wpX_plan post (nI P, cp, nI n, nI m, pl, sp, nw, hp_A W, hp_A D, hp_A EU, hp_A EV, hp_A EC, hp_A RK, hp_A OR, hp_A PR, hp_A ST, hp_A FN, hp_A BS, hp_A PF, hp_A RS, hp_A RF) := by
  have G' := G
  obtain ⟨hP1, hP, hn, hm, hW, hE, hT⟩ := G'
  refine br_f (nI_ne0 hn0 (by omega)) (x_computeRanks G H (fun r hr => ?_))
  have hrR : ∀ x, x < n → r x = R x ∧ r x ≤ 12800 := fun x hx => by
    have a := hr.2.1 x hx (by omega)
    have b := H.2.2.2 x hx
    exact ⟨a, by omega⟩
  refine x_sort__order_rankOf (G := fun x => 20000 - r x) hn (fun x t hx ht => ?_) (fun a hS ha => ?_)
  · have a1 := (hrR x hx).2
    have a2 := (hrR t ht).2
    rw [hp_dm (by omega) (by omega)]
    show r t ≤ r x ↔ ¬ (20000 - r t < 20000 - r x)
    omega
  · have hB : hp_Bf n m EU EV a := hp_BfR hS (fun e he => (hE e he).1) (fun e he => by
      have d := hp_rkD G H he
      have a1 := hrR _ (hE e he).1
      have a2 := hrR _ (hE e he).2.1
      show 20000 - r (EU e) < 20000 - r (EV e)
      omega)
    have K := hp_ZK (PR := PR) (ST := ST) (FN := FN) G hS hB n (Nat.le_refl _)
    have hL := hp_PKe G hS K
    refine x_placeTasks G hS hB (x_sort__byStart_startOf (G := (hp_Z P m W EU EV EC a PR ST FN n).2.1) hn (fun x t hx ht => ?_) (fun b hb _ => ?_))
    · have a1 := hL.1 x hx
      have a2 := hL.1 t ht
      rw [hp_d1 (by omega) (by omega)]
      omega
    · exact x_computeReplay G hL hb hD (fun PF' RS' RF' hp => h r a b PF' RS' RF' hr hS ha hB hb hp)
theorem x_finishedCount {post : Int32 → Prop} {c : Nat} (hn : n ≤ 16) (hc : c < 2 ^ 31) (hF : ∀ t, t < n → RF t ≤ 4800) (h : post (nI (hp_ct RF c n))) : wpX_finishedCount post (nI P, cp, nI n, nI m, pl, sp, nI c, hp_A W, hp_A D, hp_A EU, hp_A EV, hp_A EC, hp_A RK, hp_A OR, hp_A PR, hp_A ST, hp_A FN, hp_A BS, hp_A PF, hp_A RS, hp_A RF) := by
  have key : ∀ f t, t ≤ n → n - t < f → wX_finishedCount_4 post (nI P) cp (nI n) (nI m) pl sp (nI c) (hp_A W) (hp_A D) (hp_A EU) (hp_A EV) (hp_A EC) (hp_A RK) (hp_A OR) (hp_A PR) (hp_A ST) (hp_A FN) (hp_A BS) (hp_A PF) (hp_A RS) (hp_A RF) f (nI (hp_ct RF c t)) (nI t) := by
    intro f
    induction f with
    | zero => intro t _ h; omega
    | succ f ih =>
      intro t ht hf
      refine pk_le n t (fun z => ?_) (fun z => ?_)
      · have e : t = n := by omega
        rw [e]
        exact h
      · have b := hF t z
        have nx := ih (t + 1) (by omega) (by omega)
        refine ⟨pk_in t 16 (by omega), pk_lt c (RF t) (fun w => hp_n1 ?_) (fun w => hp_n1 (hp_n1 ?_)) (hy := hp_rd (by omega))⟩
        · rw [hp_ct, if_neg (by omega)] at nx
          exact nx
        · rw [hp_ct, if_pos w] at nx
          exact nx
  exact ⟨n + 1, key (n + 1) 0 (by omega) (by omega)⟩
end
