section
variable {P n m : Nat} {cp pl sp nw : Int32} {W D EU EV EC RK OR PR ST FN BS PF RS RF : Nat → Nat}
/-! ===== the class: placing ===== -/
theorem x_earliestStart {post : Int32 → Prop} {t p i : Nat} (hm : m ≤ 32) (ht : t < 16) (hp : p < 4) (hi : i ≤ 16) (hd : W (t * 4 + p) ≤ 100) (hE : ∀ e, e < m → EU e < 16 ∧ EV e < 16 ∧ EC e ≤ 100) (hF : ∀ e, e < m → EV e = t → FN (EU e) ≤ 10000 ∧ PR (EU e) < 4)
    (ha : ∀ j, j < i → OR j < 16 ∧ PR (OR j) < 4 ∧ ST (OR j) ≤ 10000 ∧ FN (OR j) ≤ 10000)
    (h : ∀ s, hp_Le OR PR ST FN i p (W (t * 4 + p)) (hp_mx EV t (hp_ar EU EC PR FN p) 0 m) s → post (nI s)) : wpX_earliestStart post (nI P, cp, nI n, nI m, pl, sp, nw, hp_A W, hp_A D, hp_A EU, hp_A EV, hp_A EC, hp_A RK, hp_A OR, hp_A PR, hp_A ST, hp_A FN, hp_A BS, hp_A PF, hp_A RS, hp_A RF) (nI t) (nI p) (nI i) := by
  have hrb : hp_mx EV t (hp_ar EU EC PR FN p) 0 m ≤ 20000 := hp_mxL (by omega) m (fun e he q => by
    have a := (hF e he q).1
    have b := (hE e he).2.2
    unfold hp_ar
    split <;> omega)
  have hF' : ∀ e, e < m → EV e = t → FN (EU e) ≤ 100000 ∧ PR (EU e) < 4 := fun e he q => ⟨by have := (hF e he q).1; omega, (hF e he q).2⟩
  unfold wpX_earliestStart
  refine x_costOn ht hp ?_
  refine x_dataReady__finishOf hm ht hp hE hF' ?_
  generalize hp_mx EV t (hp_ar EU EC PR FN p) 0 m = ready at h hrb ⊢
  generalize W (t * 4 + p) = d at h hd ⊢
  have top : ∀ s, (∀ s', ready ≤ s' → hp_Fr OR PR ST FN i p d s' → s ≤ s') → s ≤ 20000 := fun s hs => hs 20000 hrb (fun j hj _ q => by have := (ha j hj).2.2.2; omega)
  have inner : ∀ (s0 k : Nat) (J : Int32 → Int32 → Prop), (∀ s, hp_EI OR PR ST FN i p d ready s0 i s → J (nI s) (nI (k + 1))) → ∀ f q s, q ≤ i → i - q < f → hp_EI OR PR ST FN i p d ready s0 q s → wX_earliestStart_32 post J (nI p) (nI i) (nI d) (nI k) (nI P) cp (nI n) (nI m) pl sp nw (hp_A W) (hp_A D) (hp_A EU) (hp_A EV) (hp_A EC) (hp_A RK) (hp_A OR) (hp_A PR) (hp_A ST) (hp_A FN) (hp_A BS) (hp_A PF) (hp_A RS) (hp_A RF) f (nI s) (nI q) := by
    intro s0 k J hJ f
    induction f with
    | zero => intro q s _ h; omega
    | succ f ih =>
      intro q s hq hf hI
      have hs := top s hI.2.1
      refine pk_le i q (fun z => ?_) (fun z => ?_)
      · have e : q = i := by omega
        rw [e] at hI
        exact hp_n1 (hJ s hI)
      · obtain ⟨a1, a2, a3, a4⟩ := ha q z
        have h1 : vp_in (nI q) 16 := pk_in q 16 (by omega)
        have h2 : vp_in (nI (OR q)) 16 := pk_in (OR q) 16 (by omega)
        have skip : ¬ (PR (OR q) = p ∧ ST (OR q) < s + d ∧ s < FN (OR q)) → wX_earliestStart_32 post J (nI p) (nI i) (nI d) (nI k) (nI P) cp (nI n) (nI m) pl sp nw (hp_A W) (hp_A D) (hp_A EU) (hp_A EV) (hp_A EC) (hp_A RK) (hp_A OR) (hp_A PR) (hp_A ST) (hp_A FN) (hp_A BS) (hp_A PF) (hp_A RS) (hp_A RF) f (nI s) (nI (q + 1)) := fun w => ih (q + 1) s (by omega) (by omega) (hp_EIn hI w)
        refine ⟨h1, hp_nr (by omega) ⟨h2, pk_eq (PR (OR q)) p (fun b => ⟨h2, ?_⟩) (fun b => hp_n1 (skip fun w => b w.1)) (hx := hp_rd (by omega))⟩⟩
        rw [nI_add, hp_rd (f := ST) (j := OR q) (by omega), hp_rd (f := FN) (j := OR q) (by omega)]
        refine pk_le (s + d) (ST (OR q)) (fun c => hp_n1 (skip fun w => by omega)) (fun c => ⟨h2, pk_le (FN (OR q)) s (fun c2 => hp_n1 (skip fun w => by omega)) (fun c2 => ⟨h2, nm_e (hp_n1 (ih (q + 1) _ (by omega) (by omega) (hp_EIs z hI b c c2)))⟩)⟩)
  have outer : ∀ f k s, k ≤ i → i - k < f → hp_EK OR PR ST FN i p d ready k s → wX_earliestStart_23 post (nI p) (nI i) (nI d) (nI P) cp (nI n) (nI m) pl sp nw (hp_A W) (hp_A D) (hp_A EU) (hp_A EV) (hp_A EC) (hp_A RK) (hp_A OR) (hp_A PR) (hp_A ST) (hp_A FN) (hp_A BS) (hp_A PF) (hp_A RS) (hp_A RF) f (nI s) (nI k) := by
    intro f
    induction f with
    | zero => intro k s _ h; omega
    | succ f ih =>
      intro k s hk hf hK
      refine pk_le i k (fun z => ?_) (fun z => ?_)
      · have e : k = i := by omega
        rw [e] at hK
        exact h s (hp_EKe hK)
      · exact ⟨i + 1, inner s k _ (fun s' hI => ih (k + 1) s' (by omega) (by omega) (hp_EIe hK hI)) (i + 1) 0 s (by omega) (by omega) (hp_EI0 hK)⟩
  exact ⟨i + 1, outer (i + 1) 0 ready (by omega) (by omega) hp_EK0⟩
theorem x_placeTask {post : SX → Prop} {i mk : Nat} {GG : Nat → Nat} (G : hp_G P n m W EU EV EC) (S : hp_So n GG OR) (hB : hp_Bf n m EU EV OR) (hi : i < n) (K : hp_PK P m W EU EV OR i PR ST FN mk)
    (h : post (nI P, cp, nI n, nI m, pl, sp, nw, hp_A W, hp_A D, hp_A EU, hp_A EV, hp_A EC, hp_A RK, hp_A OR, hp_A ((hp_nx P m W EU EV EC OR i (PR, ST, FN, mk)).1), hp_A ((hp_nx P m W EU EV EC OR i (PR, ST, FN, mk)).2.1), hp_A ((hp_nx P m W EU EV EC OR i (PR, ST, FN, mk)).2.2.1), hp_A BS, hp_A PF, hp_A RS, hp_A RF)) : wpX_placeTask post (nI P, cp, nI n, nI m, pl, sp, nw, hp_A W, hp_A D, hp_A EU, hp_A EV, hp_A EC, hp_A RK, hp_A OR, hp_A PR, hp_A ST, hp_A FN, hp_A BS, hp_A PF, hp_A RS, hp_A RF) (nI i) := by
  have G' := G
  obtain ⟨hP1, hP, hn, hm, hW, hE, hT⟩ := G'
  have hti := S.1 i hi
  have E : ∀ (p : Nat) (post : Int32 → Prop), p < P → post (nI (hp_es m W EU EV EC OR PR ST FN i p)) → wpX_earliestStart post (nI P, cp, nI n, nI m, pl, sp, nw, hp_A W, hp_A D, hp_A EU, hp_A EV, hp_A EC, hp_A RK, hp_A OR, hp_A PR, hp_A ST, hp_A FN, hp_A BS, hp_A PF, hp_A RS, hp_A RF) (nI (OR i)) (nI p) (nI i) := by
    intro p post hp hq
    refine x_earliestStart hm (by omega) (by omega) (by omega) (hW _ _ hti hp).2 (fun e he => ⟨by have := (hE e he).1; omega, by have := (hE e he).2.1; omega, (hE e he).2.2⟩) (fun e he q => ?_) (fun j hj => ?_) (fun s hs => ?_)
    · obtain ⟨k, hk, w⟩ := hB e i he hi q
      have := K.1 k hk
      rw [w] at this
      exact ⟨by omega, by omega⟩
    · have a := K.1 j hj
      have b := S.1 j (by omega)
      exact ⟨by omega, by omega, by omega, by omega⟩
    · rw [hp_LeU hs (hp_esL K p)]
      exact hq
  have bd : ∀ p, p < P → hp_es m W EU EV EC OR PR ST FN i p ≤ 3300 ∧ hp_fs m W EU EV EC OR PR ST FN i p ≤ 3400 := by
    intro p hp
    have a := hp_esB (fun e he => (hE e he).2.2) hB hi K p
    have b := (hW _ _ hti hp).2
    unfold hp_fs
    omega
  have h16 : vp_in (nI (OR i)) 16 := pk_in (OR i) 16 (by omega)
  have loop : ∀ f p, 0 < p → p ≤ P → P - p < f → wX_placeTask_32 post (nI i) (nI (OR i)) (nI P) cp (nI n) (nI m) pl sp nw (hp_A W) (hp_A D) (hp_A EU) (hp_A EV) (hp_A EC) (hp_A RK) (hp_A OR) (hp_A PR) (hp_A ST) (hp_A FN) (hp_A BS) (hp_A PF) (hp_A RS) (hp_A RF) f (nI (hp_bp (hp_fs m W EU EV EC OR PR ST FN i) p)) (nI (hp_es m W EU EV EC OR PR ST FN i (hp_bp (hp_fs m W EU EV EC OR PR ST FN i) p))) (nI (hp_fs m W EU EV EC OR PR ST FN i (hp_bp (hp_fs m W EU EV EC OR PR ST FN i) p))) (nI p) := by
    intro f
    induction f with
    | zero => intro p _ _ h; omega
    | succ f ih =>
      intro p h0 hp hf
      have hbp := hp_bpL (hp_fs m W EU EV EC OR PR ST FN i) p h0
      have b1 := (bd (hp_bp (hp_fs m W EU EV EC OR PR ST FN i) p) (by omega)).2
      refine pk_le P p (fun z => ?_) (fun z => ?_)
      · have e : p = P := by omega
        subst e
        exact ⟨h16, hp_nu (by omega) ⟨h16, hp_nu (by omega) ⟨h16, hp_nu (by omega) h⟩⟩⟩
      · refine E p _ z (x_costOn (by omega) (by omega) (nm_r (nI_add _ _) ?_))
        have b2 := (bd p z).2
        have nx := ih (p + 1) (by omega) (by omega) (by omega)
        refine pk_le (hp_fs m W EU EV EC OR PR ST FN i (hp_bp (hp_fs m W EU EV EC OR PR ST FN i) p)) (hp_fs m W EU EV EC OR PR ST FN i p) (fun w => hp_n1 ?_) (fun w => hp_n1 ?_)
        · have e : hp_bp (hp_fs m W EU EV EC OR PR ST FN i) (p + 1) = hp_bp (hp_fs m W EU EV EC OR PR ST FN i) p := by
            rw [hp_bp, if_neg (by omega)]
          rw [e] at nx
          exact nx
        · have e : hp_bp (hp_fs m W EU EV EC OR PR ST FN i) (p + 1) = p := by
            rw [hp_bp, if_pos w]
          rw [e] at nx
          exact nx
  refine ⟨pk_in i 16 (by omega), hp_nr (by omega) (E 0 _ (by omega) (x_costOn (p := 0) (by omega) (by omega) (nm_r (nI_add _ _) ⟨P + 1, ?_⟩)))⟩
  have := loop (P + 1) 1 (by omega) (by omega) (by omega)
  rw [hp_bp1] at this
  exact this
theorem x_placeTasks {post : SX → Prop} {GG : Nat → Nat} (G : hp_G P n m W EU EV EC) (S : hp_So n GG OR) (hB : hp_Bf n m EU EV OR)
    (h : post (nI P, cp, nI n, nI m, pl, nI (hp_Z P m W EU EV EC OR PR ST FN n).2.2.2, nw, hp_A W, hp_A D, hp_A EU, hp_A EV, hp_A EC, hp_A RK, hp_A OR, hp_A ((hp_Z P m W EU EV EC OR PR ST FN n).1), hp_A ((hp_Z P m W EU EV EC OR PR ST FN n).2.1), hp_A ((hp_Z P m W EU EV EC OR PR ST FN n).2.2.1), hp_A BS, hp_A PF, hp_A RS, hp_A RF)) : wpX_placeTasks post (nI P, cp, nI n, nI m, pl, sp, nw, hp_A W, hp_A D, hp_A EU, hp_A EV, hp_A EC, hp_A RK, hp_A OR, hp_A PR, hp_A ST, hp_A FN, hp_A BS, hp_A PF, hp_A RS, hp_A RF) := by
  have hn := G.2.2.1
  have loop : ∀ f i PR' ST' FN' mk, i ≤ n → n - i < f → hp_Z P m W EU EV EC OR PR ST FN i = (PR', ST', FN', mk) → wX_placeTasks_7 post f (nI i) (nI P) cp (nI n) (nI m) pl (nI mk) nw (hp_A W) (hp_A D) (hp_A EU) (hp_A EV) (hp_A EC) (hp_A RK) (hp_A OR) (hp_A PR') (hp_A ST') (hp_A FN') (hp_A BS) (hp_A PF) (hp_A RS) (hp_A RF) := by
    intro f
    induction f with
    | zero => intro i PR' ST' FN' mk _ h; omega
    | succ f ih =>
      intro i PR' ST' FN' mk hi hf hZ
      have K : hp_PK P m W EU EV OR i PR' ST' FN' mk := by
        have q := hp_ZK (PR := PR) (ST := ST) (FN := FN) G S hB i hi
        rw [hZ] at q
        exact q
      refine pk_le n i (fun z => ?_) (fun z => ?_)
      · have e : i = n := by omega
        rw [e] at hZ
        rw [hZ] at h
        exact h
      · obtain ⟨k1, k2, k3⟩ := hp_nxK G S hB z K
        have hti := S.1 i z
        have k4 := K.2.2.2
        refine x_placeTask G S hB z K ?_
        have Z1 : hp_Z P m W EU EV EC OR PR ST FN (i + 1) = hp_nx P m W EU EV EC OR i (PR', ST', FN', mk) := by
          rw [hp_Z, hZ]
        refine ⟨pk_in i 16 (by omega), ?_⟩
        rw [hp_rd (f := OR) (j := i) (by omega), hp_rd (j := OR i) (by omega)]
        refine ⟨pk_in (OR i) 16 (by omega), nm_e ?_⟩
        have fe : (hp_nx P m W EU EV EC OR i (PR', ST', FN', mk)).2.2.1 (OR i) = hp_fs m W EU EV EC OR PR' ST' FN' i (hp_zb P m W EU EV EC OR PR' ST' FN' i) := hp_us
        rw [fe]
        refine pk_le (hp_fs m W EU EV EC OR PR' ST' FN' i (hp_zb P m W EU EV EC OR PR' ST' FN' i)) mk (fun w => hp_n1 ?_) (fun w => hp_n1 ?_)
        · refine ih (i + 1) _ _ _ mk (by omega) (by omega) ?_
          rw [Z1]
          unfold hp_nx
          rw [if_neg (show ¬ mk < hp_fs m W EU EV EC OR PR' ST' FN' i (hp_zb P m W EU EV EC OR PR' ST' FN' i) by omega)]
        · refine ih (i + 1) _ _ _ (hp_fs m W EU EV EC OR PR' ST' FN' i (hp_zb P m W EU EV EC OR PR' ST' FN' i)) (by omega) (by omega) ?_
          rw [Z1]
          unfold hp_nx
          rw [if_pos (show mk < hp_fs m W EU EV EC OR PR' ST' FN' i (hp_zb P m W EU EV EC OR PR' ST' FN' i) from w)]
  exact ⟨n + 1, loop (n + 1) 0 PR ST FN 0 (by omega) (by omega) rfl⟩
end
