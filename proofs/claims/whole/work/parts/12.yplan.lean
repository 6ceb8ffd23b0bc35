section
variable {P n m : Nat} {cp pl ck mk : Int32} {W D EU EV EC RK OR PR ST FN rs rf us pc rc : Nat → Nat}
/-! ===== the reference: the plan ===== -/
theorem y_plan {post : Int32 → SY → Prop} {L R r a : Nat → Nat} (G : hp_G P n m W EU EV EC) (H : hp_Rk P n m W EU EV EC L R) (hr : hp_XK P n m W EU EV EC L R RK n r) (S : hp_So n (fun x => 20000 - r x) a) (ha : ∀ j, n ≤ j → a j = OR j) (hB : hp_Bf n m EU EV a) (hn0 : 0 < n)
    (h : ∀ us' pc', post (nI (hp_Z P m W EU EV EC a PR ST FN n).2.2.2) (nI P, cp, nI n, nI m, 1, 0, nI (hp_Z P m W EU EV EC a PR ST FN n).2.2.2, hp_A W, hp_A D, hp_A EU, hp_A EV, hp_A EC, hp_A r, hp_A a, hp_A ((hp_Z P m W EU EV EC a PR ST FN n).1), hp_A ((hp_Z P m W EU EV EC a PR ST FN n).2.1), hp_A ((hp_Z P m W EU EV EC a PR ST FN n).2.2.1), hp_A rs, hp_A rf, hp_A us', hp_A pc', hp_A rc)) :
    wpY_plan post (nI P, cp, nI n, nI m, pl, ck, mk, hp_A W, hp_A D, hp_A EU, hp_A EV, hp_A EC, hp_A RK, hp_A OR, hp_A PR, hp_A ST, hp_A FN, hp_A rs, hp_A rf, hp_A us, hp_A pc, hp_A rc) := by
  have G' := G
  obtain ⟨hP1, hP, hn, hm, hW, hE, hT⟩ := G'
  have hrb : ∀ x, x < n → r x ≤ 12800 := fun x hx => by
    have a := hr.2.1 x hx (by omega)
    have b := H.2.2.2 x hx
    omega
  -- placing
  have l211 : ∀ us0 f i PR' ST' FN' pc' mk', i ≤ n → n - i < f → hp_Z P m W EU EV EC a PR ST FN i = (PR', ST', FN', mk') → (∀ x, x < n → pc' x ≤ 1 ∧ (pc' x = 1 ↔ ∃ j, j < i ∧ a j = x)) → wY_plan_211 post (nI P) cp (nI n) (nI m) pl ck f (nI i) (nI mk') (hp_A W) (hp_A D) (hp_A EU) (hp_A EV) (hp_A EC) (hp_A r) (hp_A a) (hp_A PR') (hp_A ST') (hp_A FN') (hp_A rs) (hp_A rf) (hp_A us0) (hp_A pc') (hp_A rc) := by
    intro us0 f
    induction f with
    | zero => intro i PR' ST' FN' pc' mk' _ h; omega
    | succ f ih =>
      intro i PR' ST' FN' pc' mk' hi hf hZ hU
      have K : hp_PK P m W EU EV a i PR' ST' FN' mk' := by
        have q := hp_ZK (PR := PR) (ST := ST) (FN := FN) G S hB i hi
        rw [hZ] at q
        exact q
      refine pk_le n i (fun z => ?_) (fun z => ?_)
      · have e : i = n := by omega
        rw [e] at hZ
        have h' := h us0 pc'
        rw [hZ] at h'
        exact h'
      · have hti := S.1 i z
        obtain ⟨k1, k2, k3⟩ := hp_nxK G S hB z K
        have k4 := K.2.2.2
        have h16 : vp_in (nI (a i)) 16 := pk_in (a i) 16 (by omega)
        have bd : ∀ p, p < P → hp_es m W EU EV EC a PR' ST' FN' i p ≤ 3300 ∧ hp_fs m W EU EV EC a PR' ST' FN' i p ≤ 3400 := by
          intro p hp
          have a1 := hp_esB (fun e he => (hE e he).2.2) hB z K p
          have b1 := (hW _ _ hti hp).2
          unfold hp_fs
          omega
        have E : ∀ (p : Nat) (post : Int32 → Prop), p < P → post (nI (hp_es m W EU EV EC a PR' ST' FN' i p)) → wpY_est post (nI P, cp, nI n, nI m, pl, ck, nI mk', hp_A W, hp_A D, hp_A EU, hp_A EV, hp_A EC, hp_A r, hp_A a, hp_A PR', hp_A ST', hp_A FN', hp_A rs, hp_A rf, hp_A us0, hp_A pc', hp_A rc) (nI (a i)) (nI p) := by
          intro p post hp hq
          refine y_est G z (fun j hj => S.1 j (by omega)) hp hU hB (fun j hj => ?_) (by have := (bd p hp).1; omega) (hp_esL K p) hq
          have q := K.1 j hj
          exact ⟨by omega, by omega, by omega⟩
        have hU' : ∀ x, x < n → hp_u pc' (a i) 1 x ≤ 1 ∧ (hp_u pc' (a i) 1 x = 1 ↔ ∃ j, j < i + 1 ∧ a j = x) := by
          intro x hx
          by_cases e : x = a i
          · subst e
            rw [hp_us]
            exact ⟨Nat.le_refl _, fun _ => ⟨i, by omega, rfl⟩, fun _ => rfl⟩
          · rw [hp_un e]
            refine ⟨(hU x hx).1, fun q => ?_, fun ⟨j, hj, q⟩ => (hU x hx).2.mpr ⟨j, ?_, q⟩⟩
            · obtain ⟨j, hj, q⟩ := (hU x hx).2.mp q
              exact ⟨j, by omega, q⟩
            · by_cases w : j = i
              · subst w; exact absurd q.symm e
              · omega
        have Z1 : hp_Z P m W EU EV EC a PR ST FN (i + 1) = hp_nx P m W EU EV EC a i (PR', ST', FN', mk') := by
          rw [hp_Z, hZ]
        have loop : ∀ g p, 0 < p → p ≤ P → P - p < g → wY_plan_237 post (wY_plan_211 post (nI P) cp (nI n) (nI m) pl ck f) (nI i) (nI (a i)) (nI P) cp (nI n) (nI m) pl ck (nI mk') (hp_A W) (hp_A D) (hp_A EU) (hp_A EV) (hp_A EC) (hp_A r) (hp_A a) (hp_A PR') (hp_A ST') (hp_A FN') (hp_A rs) (hp_A rf) (hp_A us0) (hp_A pc') (hp_A rc) g (nI (hp_bp (hp_fs m W EU EV EC a PR' ST' FN' i) p)) (nI (hp_fs m W EU EV EC a PR' ST' FN' i (hp_bp (hp_fs m W EU EV EC a PR' ST' FN' i) p))) (nI (hp_es m W EU EV EC a PR' ST' FN' i (hp_bp (hp_fs m W EU EV EC a PR' ST' FN' i) p))) (nI p) := by
          intro g
          induction g with
          | zero => intro p _ _ h; omega
          | succ g ihg =>
            intro p h0 hp hg
            have hbp := hp_bpL (hp_fs m W EU EV EC a PR' ST' FN' i) p h0
            have b1 := (bd (hp_bp (hp_fs m W EU EV EC a PR' ST' FN' i) p) (by omega)).2
            refine pk_le P p (fun w => ?_) (fun w => ?_)
            · have e : p = P := by omega
              subst e
              refine ⟨h16, hp_nu (by omega) ⟨h16, hp_nu (by omega) ⟨h16, hp_nu (by omega) ⟨h16, hp_nuB1 (by omega) ?_⟩⟩⟩⟩
              refine pk_le (hp_fs m W EU EV EC a PR' ST' FN' i (hp_bp (hp_fs m W EU EV EC a PR' ST' FN' i) p)) mk' (fun y => hp_n1 ?_) (fun y => hp_n1 ?_)
              · refine ih (i + 1) _ _ _ _ mk' (by omega) (by omega) ?_ hU'
                rw [Z1]
                unfold hp_nx
                rw [if_neg (show ¬ mk' < hp_fs m W EU EV EC a PR' ST' FN' i (hp_zb p m W EU EV EC a PR' ST' FN' i) by unfold hp_zb; omega)]
                rfl
              · refine ih (i + 1) _ _ _ _ (hp_fs m W EU EV EC a PR' ST' FN' i (hp_bp (hp_fs m W EU EV EC a PR' ST' FN' i) p)) (by omega) (by omega) ?_ hU'
                rw [Z1]
                unfold hp_nx
                rw [if_pos (show mk' < hp_fs m W EU EV EC a PR' ST' FN' i (hp_zb p m W EU EV EC a PR' ST' FN' i) from y)]
                rfl
            · have nx := ihg (p + 1) (by omega) (by omega) (by omega)
              have b2 := (bd p w).2
              refine E p _ w ?_
              rw [hp_ix, hp_rd (by omega)]
              refine ⟨pk_in (a i * 4 + p) 64 (by omega), nm_r (nI_add _ _) (br_f (nI_pos (by omega)) ?_)⟩
              refine pk_le (hp_fs m W EU EV EC a PR' ST' FN' i (hp_bp (hp_fs m W EU EV EC a PR' ST' FN' i) p)) (hp_fs m W EU EV EC a PR' ST' FN' i p) (fun y => hp_n1 ?_) (fun y => hp_n1 ?_)
              · have e : hp_bp (hp_fs m W EU EV EC a PR' ST' FN' i) (p + 1) = hp_bp (hp_fs m W EU EV EC a PR' ST' FN' i) p := by
                  rw [hp_bp, if_neg (by omega)]
                rw [e] at nx
                exact nx
              · have e : hp_bp (hp_fs m W EU EV EC a PR' ST' FN' i) (p + 1) = p := by
                  rw [hp_bp, if_pos y]
                rw [e] at nx
                exact nx
        refine ⟨pk_in i 16 (by omega), hp_nr (by omega) ⟨P + 2, ?_⟩⟩
        refine br_f (nI_ge (a := 0) (by omega) (by omega)) (E 0 _ (by omega) ?_)
        have nx := loop (P + 1) 1 (by omega) (by omega) (by omega)
        rw [hp_bp1] at nx
        have e0 : nI (a i) * 4 + 0 = nI (a i * 4 + 0) := hp_ix (a i) 0
        rw [e0, hp_rd (by omega)]
        exact ⟨pk_in (a i * 4 + 0) 64 (by omega), nm_r (nI_add _ _) (br_t hp_m1n (hp_n1 (i := 0) nx))⟩
  have l183 : ∀ us0 f t pc', t ≤ n → n - t < f → (∀ x, x < t → pc' x = 0) → wY_plan_183 post (nI P) cp (nI n) (nI m) pl ck mk f (nI t) (hp_A W) (hp_A D) (hp_A EU) (hp_A EV) (hp_A EC) (hp_A r) (hp_A a) (hp_A PR) (hp_A ST) (hp_A FN) (hp_A rs) (hp_A rf) (hp_A us0) (hp_A pc') (hp_A rc) := by
    intro us0 f
    induction f with
    | zero => intro t pc' _ h; omega
    | succ f ih =>
      intro t pc' ht hf hI
      refine pk_le n t (fun z => ?_) (fun z => ?_)
      · have e : t = n := by omega
        rw [e] at hI
        exact ⟨n + 1, l211 us0 (n + 1) 0 PR ST FN pc' 0 (by omega) (by omega) rfl (fun x hx => ⟨by rw [hI x hx]; omega, fun q => by rw [hI x hx] at q; omega, fun ⟨j, hj, _⟩ => by omega⟩)⟩
      · refine ⟨pk_in t 16 (by omega), hp_nuB0 (by omega) (hp_n1 (ih (t + 1) _ (by omega) (by omega) (fun x hx => ?_)))⟩
        by_cases e : x = t
        · subst e; rw [hp_us]
        · rw [hp_un e]; exact hI x (by omega)
  -- choosing
  have l113 : ∀ (i : Nat) (us' o : Nat → Nat) (J : Int32 → (Nat → Int32) → (Nat → Int32) → (Nat → Int32) → (Nat → Int32) → (Nat → Int32) → (Nat → Int32) → (Nat → Int32) → (Nat → Int32) → (Nat → Int32) → (Nat → Int32) → (Nat → Int32) → (Nat → Int32) → (Nat → Int32) → (Nat → Int32) → (Nat → Int32) → Prop), i < n → hp_Se n a OR i us' o → J (nI (i + 1)) (hp_A W) (hp_A D) (hp_A EU) (hp_A EV) (hp_A EC) (hp_A r) (hp_A (hp_u o i (a i))) (hp_A PR) (hp_A ST) (hp_A FN) (hp_A rs) (hp_A rf) (hp_A (hp_u us' (a i) 1)) (hp_A pc) (hp_A rc) →
      ∀ f t b, t ≤ n → n - t < f → hp_Sc (fun x => 20000 - r x) (fun x => us' x = 1) t b → wY_plan_113 post J (nI i) (nI P) cp (nI n) (nI m) pl ck mk (hp_A W) (hp_A D) (hp_A EU) (hp_A EV) (hp_A EC) (hp_A r) (hp_A o) (hp_A PR) (hp_A ST) (hp_A FN) (hp_A rs) (hp_A rf) (hp_A us') (hp_A pc) (hp_A rc) f (hp_o b) (nI t) := by
    intro i us' o J hi hSe hJ f
    induction f with
    | zero => intro t b _ h; omega
    | succ f ih =>
      intro t b ht hf hI
      refine pk_le n t (fun z => ?_) (fun z => ?_)
      · have e : t = n := by omega
        rw [e] at hI
        rw [hp_ScE S hi hSe.2.2.2 hI]
        have hai := S.1 i hi
        exact br_f (nI_pos (by omega)) ⟨pk_in (a i) 16 (by omega), hp_nuB1 (by omega) ⟨pk_in i 16 (by omega), hp_nu (by omega) (hp_n1 hJ)⟩⟩
      · have h16 : vp_in (nI t) 16 := pk_in t 16 (by omega)
        refine ⟨h16, hp_z (by omega) (hSe.2.2.1 t z) Iff.rfl (fun w => ?_) (fun w => hp_n1 (ih (t + 1) b (by omega) (by omega) (hp_ScU hI w)))⟩
        cases b with
        | none => exact br_t hp_m1n (hp_n1 (ih (t + 1) (some t) (by omega) (by omega) (hp_ScN hI w)))
        | some b =>
          have hb := hI.1
          have r1 := hrb t z
          have r2 := hrb b (by omega)
          refine br_f (nI_pos (by omega)) ⟨h16, pk_in b 16 (by omega), ?_⟩
          refine pk_le (r t) (r b) (fun y => hp_n1 (ih (t + 1) (some b) (by omega) (by omega) (hp_ScK hI ?_))) (fun y => hp_n1 (ih (t + 1) (some t) (by omega) (by omega) (hp_ScB hI w ?_))) (hx := hp_rd (by omega)) (hy := hp_rd (by omega))
          · show ¬ 20000 - r t < 20000 - r b
            omega
          · show 20000 - r t < 20000 - r b
            omega
  have l101 : ∀ f i us' o, i ≤ n → n - i < f → hp_Se n a OR i us' o → wY_plan_101 post (nI P) cp (nI n) (nI m) pl ck mk f (nI i) (hp_A W) (hp_A D) (hp_A EU) (hp_A EV) (hp_A EC) (hp_A r) (hp_A o) (hp_A PR) (hp_A ST) (hp_A FN) (hp_A rs) (hp_A rf) (hp_A us') (hp_A pc) (hp_A rc) := by
    intro f
    induction f with
    | zero => intro i us' o _ h; omega
    | succ f ih =>
      intro i us' o hi hf hI
      refine pk_le n i (fun z => ?_) (fun z => ?_)
      · have e : i = n := by omega
        rw [e] at hI
        rw [hp_Seu hI ha]
        exact ⟨n + 1, l183 us' (n + 1) 0 pc (by omega) (by omega) (fun x hx => by omega)⟩
      · exact ⟨n + 1, l113 i us' o _ z hI (ih (i + 1) _ _ (by omega) (by omega) (hp_Ses S z hI)) (n + 1) 0 none (by omega) (by omega) (hp_Sc0 _ _)⟩
  have l78 : ∀ f t us', t ≤ n → n - t < f → (∀ x, x < t → us' x = 0) → wY_plan_78 post (nI P) cp (nI n) (nI m) pl ck mk f (nI t) (hp_A W) (hp_A D) (hp_A EU) (hp_A EV) (hp_A EC) (hp_A r) (hp_A OR) (hp_A PR) (hp_A ST) (hp_A FN) (hp_A rs) (hp_A rf) (hp_A us') (hp_A pc) (hp_A rc) := by
    intro f
    induction f with
    | zero => intro t us' _ h; omega
    | succ f ih =>
      intro t us' ht hf hI
      refine pk_le n t (fun z => ?_) (fun z => ?_)
      · have e : t = n := by omega
        rw [e] at hI
        exact ⟨n + 1, l101 (n + 1) 0 us' OR (by omega) (by omega) (hp_Se0 hI)⟩
      · refine ⟨pk_in t 16 (by omega), hp_nuB0 (by omega) (hp_n1 (ih (t + 1) _ (by omega) (by omega) (fun x hx => ?_)))⟩
        by_cases e : x = t
        · subst e; rw [hp_us]
        · rw [hp_un e]; exact hI x (by omega)
  -- ranks
  have l45 : ∀ (k : Nat) (J : Int32 → (Nat → Int32) → (Nat → Int32) → (Nat → Int32) → (Nat → Int32) → (Nat → Int32) → (Nat → Int32) → (Nat → Int32) → (Nat → Int32) → (Nat → Int32) → (Nat → Int32) → (Nat → Int32) → (Nat → Int32) → (Nat → Int32) → (Nat → Int32) → (Nat → Int32) → Prop), (∀ q, hp_YE n L R RK k n q → J (nI (k + 1)) (hp_A W) (hp_A D) (hp_A EU) (hp_A EV) (hp_A EC) (hp_A q) (hp_A OR) (hp_A PR) (hp_A ST) (hp_A FN) (hp_A rs) (hp_A rf) (hp_A us) (hp_A pc) (hp_A rc)) → ∀ f t q, t ≤ n → n - t < f → hp_YE n L R RK k t q → wY_plan_45 post J (nI k) (nI P) cp (nI n) (nI m) pl ck mk f (nI t) (hp_A W) (hp_A D) (hp_A EU) (hp_A EV) (hp_A EC) (hp_A q) (hp_A OR) (hp_A PR) (hp_A ST) (hp_A FN) (hp_A rs) (hp_A rf) (hp_A us) (hp_A pc) (hp_A rc) := by
    intro k J hJ f
    induction f with
    | zero => intro t q _ h; omega
    | succ f ih =>
      intro t q ht hf hI
      refine pk_le n t (fun z => ?_) (fun z => ?_)
      · have e : t = n := by omega
        rw [e] at hI
        exact hp_n1 (hJ q hI)
      · refine y_rankOnce G z (fun j hj => ?_) ⟨pk_in t 16 (by omega), hp_nu (by omega) (hp_n1 (ih (t + 1) _ (by omega) (by omega) (hp_YEs H (fun e he => (hE e he).2.1) z hI)))⟩
        have a1 := hI.1.1 j hj
        have a2 := H.2.2.2 j hj
        omega
  have l35 : ∀ f k q, k ≤ n → n - k < f → hp_YK n L R RK k q → wY_plan_35 post (nI P) cp (nI n) (nI m) pl ck mk f (nI k) (hp_A W) (hp_A D) (hp_A EU) (hp_A EV) (hp_A EC) (hp_A q) (hp_A OR) (hp_A PR) (hp_A ST) (hp_A FN) (hp_A rs) (hp_A rf) (hp_A us) (hp_A pc) (hp_A rc) := by
    intro f
    induction f with
    | zero => intro k q _ h; omega
    | succ f ih =>
      intro k q hk hf hI
      refine pk_le n k (fun z => ?_) (fun z => ?_)
      · have e : k = n := by omega
        rw [e] at hI
        rw [hp_rkU hr hI]
        exact ⟨n + 1, l78 (n + 1) 0 us (by omega) (by omega) (fun x hx => by omega)⟩
      · exact ⟨n + 1, l45 k _ (fun q' hq' => ih (k + 1) q' (by omega) (by omega) (hp_YEe hq')) (n + 1) 0 q (by omega) (by omega) ⟨hI, fun j hj => by omega⟩⟩
  have l12 : ∀ f t q, t ≤ n → n - t < f → (∀ j, j < t → q j = 0) → (∀ j, n ≤ j → q j = RK j) → wY_plan_12 post (nI P) cp (nI n) (nI m) pl ck mk f (nI t) (hp_A W) (hp_A D) (hp_A EU) (hp_A EV) (hp_A EC) (hp_A q) (hp_A OR) (hp_A PR) (hp_A ST) (hp_A FN) (hp_A rs) (hp_A rf) (hp_A us) (hp_A pc) (hp_A rc) := by
    intro f
    induction f with
    | zero => intro t q _ h; omega
    | succ f ih =>
      intro t q ht hf h1 h2
      refine pk_le n t (fun z => ?_) (fun z => ?_)
      · have e : t = n := by omega
        rw [e] at h1
        exact ⟨n + 1, l35 (n + 1) 0 q (by omega) (by omega) (hp_YK0 H h1 h2)⟩
      · refine ⟨pk_in t 16 (by omega), hp_nu (v := 0) (by omega) (hp_n1 (ih (t + 1) _ (by omega) (by omega) (fun j hj => ?_) (fun j hj => ?_)))⟩
        · by_cases e : j = t
          · subst e; rw [hp_us]
          · rw [hp_un e]; exact h1 j (by omega)
        · rw [hp_un (by omega)]; exact h2 j hj
  exact br_f (nI_ne0 hn0 (by omega)) ⟨n + 1, l12 (n + 1) 0 RK (by omega) (by omega) (fun j hj => by omega) (fun _ _ => rfl)⟩
end
