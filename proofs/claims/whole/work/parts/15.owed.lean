/-! ===== what the owed statements need besides ===== -/
theorem hp_RRe {n m v : Nat} {EU EV : Nat → Nat} (hv : v < n) (hE : ∀ e, e < m → EV e < n) : ∃ S, hp_RR n m EU EV v S := by
  refine ⟨fun j => ∀ C : Nat → Prop, hp_Cl m EU EV C → C v → C j, fun C _ h => h, fun j h => ?_, fun C hC hv j h => h C hC hv, fun e he h C hC hv => hC e he (h C hC hv)⟩
  exact h (fun j => j < n) (fun e he _ => hE e he) hv
theorem hp_addW {P n : Nat} {W : Nat → Nat} {d0 d1 d2 d3 : Nat} (hP : P ≤ 4) (h : ∀ t p, t < n → p < P → 1 ≤ W (t * 4 + p) ∧ W (t * 4 + p) ≤ 100) (h0 : 0 < P → 1 ≤ d0 ∧ d0 ≤ 100) (h1 : 1 < P → 1 ≤ d1 ∧ d1 ≤ 100) (h2 : 2 < P → 1 ≤ d2 ∧ d2 ≤ 100) (h3 : 3 < P → 1 ≤ d3 ∧ d3 ≤ 100) :
    ∀ t p, t < n + 1 → p < P → 1 ≤ hp_u (hp_u (hp_u (hp_u W (n * 4) d0) (n * 4 + 1) d1) (n * 4 + 2) d2) (n * 4 + 3) d3 (t * 4 + p) ∧ hp_u (hp_u (hp_u (hp_u W (n * 4) d0) (n * 4 + 1) d1) (n * 4 + 2) d2) (n * 4 + 3) d3 (t * 4 + p) ≤ 100 := by
  intro t p ht hp
  by_cases e : t = n
  · subst e
    have hp4 : p < 4 := by omega
    rcases (by omega : p = 0 ∨ p = 1 ∨ p = 2 ∨ p = 3) with q | q | q | q
    · subst q
      rw [hp_un (by omega), hp_un (by omega), hp_un (by omega), show t * 4 + 0 = t * 4 from rfl, hp_us]
      exact h0 hp
    · subst q
      rw [hp_un (by omega), hp_un (by omega), hp_us]
      exact h1 hp
    · subst q
      rw [hp_un (by omega), hp_us]
      exact h2 hp
    · subst q
      rw [hp_us]
      exact h3 hp
  · rw [hp_un (by omega), hp_un (by omega), hp_un (by omega), hp_un (by omega)]
    exact h t p (by omega) hp
section
variable {P n m : Nat} {cp pl sp nw : Int32} {W D EU EV EC RK OR PR ST FN BS PF RS RF : Nat → Nat}
theorem x_addEdgeB {post : Int32 → SX → Prop} {v1 v2 v3 : Int32} (hn : n ≤ 16) (hb : v1 < 0 ∨ nI n ≤ v1 ∨ v2 < 0 ∨ nI n ≤ v2 ∨ v3 < 0 ∨ 100 < v3) (h : post (-1) (nI P, cp, nI n, nI m, pl, sp, nw, hp_A W, hp_A D, hp_A EU, hp_A EV, hp_A EC, hp_A RK, hp_A OR, hp_A PR, hp_A ST, hp_A FN, hp_A BS, hp_A PF, hp_A RS, hp_A RF)) : wpX_addEdge post (nI P, cp, nI n, nI m, pl, sp, nw, hp_A W, hp_A D, hp_A EU, hp_A EV, hp_A EC, hp_A RK, hp_A OR, hp_A PR, hp_A ST, hp_A FN, hp_A BS, hp_A PF, hp_A RS, hp_A RF) v1 v2 v3 := by
  unfold wpX_addEdge
  refine x_isTask hn (fun _ => br_t rfl h) (fun t1 h1 e1 => br_f (by decide) ?_)
  refine x_isTask hn (fun _ => br_t rfl h) (fun t2 h2 e2 => br_f (by decide) ?_)
  refine x_inRange (fun _ => br_t rfl h) (fun q1 q2 => ?_)
  subst e1 e2
  rcases hb with w | w | w | w | w | w
  · exact absurd w (nI_pos (by omega))
  · exact absurd w (nI_ge h1 (by omega))
  · exact absurd w (nI_pos (by omega))
  · exact absurd w (nI_ge h2 (by omega))
  · exact absurd w q1
  · exact absurd w q2
theorem x_addEdge {post : Int32 → SX → Prop} {u v c : Nat} {S : Nat → Prop} (hn : n ≤ 16) (hm : m ≤ 32) (hu : u < n) (hv : v < n) (hc : c ≤ 100) (hE : ∀ e, e < m → EU e < n ∧ EV e < n) (hS : hp_RR n m EU EV v S)
    (h3 : (∃ e, e < m ∧ EU e = u ∧ EV e = v) → post (-3) (nI P, cp, nI n, nI m, pl, sp, nw, hp_A W, hp_A D, hp_A EU, hp_A EV, hp_A EC, hp_A RK, hp_A OR, hp_A PR, hp_A ST, hp_A FN, hp_A BS, hp_A PF, hp_A RS, hp_A RF))
    (h2 : (∀ e, e < m → ¬ (EU e = u ∧ EV e = v)) → m = 32 → post (-2) (nI P, cp, nI n, nI m, pl, sp, nw, hp_A W, hp_A D, hp_A EU, hp_A EV, hp_A EC, hp_A RK, hp_A OR, hp_A PR, hp_A ST, hp_A FN, hp_A BS, hp_A PF, hp_A RS, hp_A RF))
    (h4 : (∀ e, e < m → ¬ (EU e = u ∧ EV e = v)) → m ≠ 32 → S u → post (-4) (nI P, cp, nI n, nI m, pl, sp, nw, hp_A W, hp_A D, hp_A EU, hp_A EV, hp_A EC, hp_A RK, hp_A OR, hp_A PR, hp_A ST, hp_A FN, hp_A BS, hp_A PF, hp_A RS, hp_A RF))
    (h0 : (∀ e, e < m → ¬ (EU e = u ∧ EV e = v)) → m ≠ 32 → ¬ S u → post (nI m) (nI P, cp, nI n, nI (m + 1), 0, sp, 0, hp_A W, hp_A D, hp_A (hp_u EU m u), hp_A (hp_u EV m v), hp_A (hp_u EC m c), hp_A RK, hp_A OR, hp_A PR, hp_A ST, hp_A FN, hp_A BS, hp_A PF, hp_A RS, hp_A RF)) :
    wpX_addEdge post (nI P, cp, nI n, nI m, pl, sp, nw, hp_A W, hp_A D, hp_A EU, hp_A EV, hp_A EC, hp_A RK, hp_A OR, hp_A PR, hp_A ST, hp_A FN, hp_A BS, hp_A PF, hp_A RS, hp_A RF) (nI u) (nI v) (nI c) := by
  have n1 : ¬ (1 : Int32) = 0 := by decide
  unfold wpX_addEdge
  refine x_isTask hn (fun q => (q.elim (nI_pos (by omega)) (nI_ge hu (by omega))).elim) (fun _ _ _ => br_f n1 ?_)
  refine x_isTask hn (fun q => (q.elim (nI_pos (by omega)) (nI_ge hv (by omega))).elim) (fun _ _ _ => br_f n1 ?_)
  refine x_inRange (fun q => (q.elim (nI_pos (by omega)) (nI_nlt (b := c) (a := 100) hc (by decide))).elim) (fun _ _ => br_f n1 ?_)
  refine x_hasEdge hm (by omega) (by omega) (fun e he => ⟨by have := (hE e he).1; omega, by have := (hE e he).2; omega⟩) (fun q => br_f n1 (h3 q)) (fun q => br_t rfl ?_)
  refine pk_eq m 32 (fun w => h2 q w) (fun w => ?_)
  have m32 : vp_in (nI m) 32 := pk_in m 32 (by omega)
  refine x_leadsTo hn hm hv hu hE (fun T hT => ⟨fun y => br_f n1 (h4 q w ((hp_RRu hT hS u).mp y)), fun y => br_t rfl ?_⟩)
  exact ⟨m32, hp_nu (by omega) ⟨m32, hp_nu (by omega) ⟨m32, hp_nu (by omega) (hp_n1 (h0 q w (fun z => y ((hp_RRu hT hS u).mpr z))))⟩⟩⟩
end
section
variable {P n m : Nat} {cp pl ck mk : Int32} {W D EU EV EC RK OR PR ST FN rs rf us pc rc : Nat → Nat}
theorem y_addEdgeB {post : Int32 → SY → Prop} {v1 v2 v3 : Int32} (hb : v1 < 0 ∨ nI n ≤ v1 ∨ v2 < 0 ∨ nI n ≤ v2 ∨ v3 < 0 ∨ 100 < v3) (h : post (-1) (nI P, cp, nI n, nI m, pl, ck, mk, hp_A W, hp_A D, hp_A EU, hp_A EV, hp_A EC, hp_A RK, hp_A OR, hp_A PR, hp_A ST, hp_A FN, hp_A rs, hp_A rf, hp_A us, hp_A pc, hp_A rc)) : wpY_addEdge post (nI P, cp, nI n, nI m, pl, ck, mk, hp_A W, hp_A D, hp_A EU, hp_A EV, hp_A EC, hp_A RK, hp_A OR, hp_A PR, hp_A ST, hp_A FN, hp_A rs, hp_A rf, hp_A us, hp_A pc, hp_A rc) v1 v2 v3 := by
  refine br_c (fun _ => h) (fun a1 => br_c (fun _ => h) (fun a2 => br_c (fun _ => h) (fun a3 => br_c (fun a4 => br_c (fun _ => h) (fun a5 => br_c (fun a6 => ?_) (fun _ => h))) (fun _ => h))))
  rcases hb with w | w | w | w | w | w
  · exact absurd w a1
  · exact absurd w a2
  · exact absurd w a3
  · exact absurd (Int32.lt_of_lt_of_le a4 w) Int32.lt_irrefl
  · exact absurd w a5
  · exact absurd (Int32.lt_of_lt_of_le w a6) Int32.lt_irrefl
theorem y_setDelayB {post : Int32 → SY → Prop} {v1 v2 : Int32} (hb : v1 < 0 ∨ nI n ≤ v1 ∨ v2 < 0 ∨ 100 < v2) (h : post (-1) (nI P, cp, nI n, nI m, pl, ck, mk, hp_A W, hp_A D, hp_A EU, hp_A EV, hp_A EC, hp_A RK, hp_A OR, hp_A PR, hp_A ST, hp_A FN, hp_A rs, hp_A rf, hp_A us, hp_A pc, hp_A rc)) : wpY_setDelay post (nI P, cp, nI n, nI m, pl, ck, mk, hp_A W, hp_A D, hp_A EU, hp_A EV, hp_A EC, hp_A RK, hp_A OR, hp_A PR, hp_A ST, hp_A FN, hp_A rs, hp_A rf, hp_A us, hp_A pc, hp_A rc) v1 v2 := by
  refine br_c (fun _ => h) (fun a1 => br_c (fun a2 => br_c (fun _ => h) (fun a3 => br_c (fun a4 => ?_) (fun _ => h))) (fun _ => h))
  rcases hb with w | w | w | w
  · exact absurd w a1
  · exact absurd (Int32.lt_of_lt_of_le a2 w) Int32.lt_irrefl
  · exact absurd w a3
  · exact absurd (Int32.lt_of_lt_of_le w a4) Int32.lt_irrefl
end
theorem i_vc_addTask {k : Nat} {u : SX} {v : SY} (I : i_Rel k u v) (hk : k + 5 ≤ 2562) (v1 : Int32) (v2 : Int32) (v3 : Int32) (v4 : Int32) : wpX_addTask (fun r u' => wpY_addTask (fun r' v' => r' = r ∧ i_Rel (k + 5) u' v') v v1 v2 v3 v4) u v1 v2 v3 v4 := by
  have J : i_Rel (k + 5) u v := I
  obtain ⟨P, cap, n, m, pl, sp, nw, W, D, EU, EV, EC, RK, OR, PR, ST, FN, BS, PF, RS, RF, rs, rf, us, pc, rc, rfl, rfl, hI, hpl, hPn⟩ := I
  have hI' := hI
  obtain ⟨G, hcap, hnc, hnw, hD, hW⟩ := hI'
  have G' := G
  obtain ⟨hP1, hP, hn, hm, hWb, hE, hT⟩ := G'
  by_cases full : n = cap
  · subst full
    exact br_t rfl (br_t rfl ⟨rfl, J⟩)
  · by_cases ok : (0 < P → ¬ hp_B v1) ∧ (1 < P → ¬ hp_B v2) ∧ (2 < P → ¬ hp_B v3) ∧ (3 < P → ¬ hp_B v4)
    · obtain ⟨g0, g1, g2, g3⟩ := ok
      obtain ⟨d0, a0, b0⟩ := hp_dd P 0 g0
      obtain ⟨d1, a1, b1⟩ := hp_dd P 1 g1
      obtain ⟨d2, a2, b2⟩ := hp_dd P 2 g2
      obtain ⟨d3, a3, b3⟩ := hp_dd P 3 g3
      refine x_addTask hP hcap (by omega) hW g0 g1 g2 g3 ⟨fun q => (a0 q).1, b0⟩ ⟨fun q => (a1 q).1, b1⟩ ⟨fun q => (a2 q).1, b2⟩ ⟨fun q => (a3 q).1, b3⟩ ?_
      refine y_addTask hP1 hP hcap (by omega) g0 g1 g2 g3 ⟨fun q => (a0 q).1, b0⟩ ⟨fun q => (a1 q).1, b1⟩ ⟨fun q => (a2 q).1, b2⟩ ⟨fun q => (a3 q).1, b3⟩ ⟨rfl, ?_⟩
      refine ⟨P, cap, n + 1, m, 0, sp, 0, _, _, EU, EV, EC, RK, OR, PR, ST, FN, BS, PF, RS, RF, rs, rf, us, pc, rc, rfl, rfl, ⟨⟨hP1, hP, by omega, hm, ?_, ?_, hT⟩, hcap, by omega, by omega, ?_, ?_⟩, by omega, fun q => by omega⟩
      · exact hp_addW hP hWb (fun q => (a0 q).2) (fun q => (a1 q).2) (fun q => (a2 q).2) (fun q => (a3 q).2)
      · intro e he
        have := hE e he
        exact ⟨by omega, by omega, by omega⟩
      · intro t ht
        by_cases e : t = n
        · subst e; rw [hp_us]; omega
        · rw [hp_un e]; exact hD t (by omega)
      · intro i hi
        rw [hp_un (by omega), hp_un (by omega), hp_un (by omega), hp_un (by omega)]
        exact hW i (by omega)
    · exact x_addTaskB hP hcap (by omega) ok (y_addTaskB hP1 hP hcap (by omega) ok ⟨rfl, J⟩)
theorem i_vc_addEdge {k : Nat} {u : SX} {v : SY} (I : i_Rel k u v) (hk : k + 5 ≤ 2562) (v1 : Int32) (v2 : Int32) (v3 : Int32) : wpX_addEdge (fun r u' => wpY_addEdge (fun r' v' => r' = r ∧ i_Rel (k + 5) u' v') v v1 v2 v3) u v1 v2 v3 := by
  have J : i_Rel (k + 5) u v := I
  obtain ⟨P, cap, n, m, pl, sp, nw, W, D, EU, EV, EC, RK, OR, PR, ST, FN, BS, PF, RS, RF, rs, rf, us, pc, rc, rfl, rfl, hI, hpl, hPn⟩ := I
  have hI' := hI
  obtain ⟨G, hcap, hnc, hnw, hD, hW⟩ := hI'
  have G' := G
  obtain ⟨hP1, hP, hn, hm, hWb, hE, hT⟩ := G'
  by_cases bad : v1 < 0 ∨ nI n ≤ v1 ∨ v2 < 0 ∨ nI n ≤ v2 ∨ v3 < 0 ∨ 100 < v3
  · exact x_addEdgeB hn bad (y_addEdgeB bad ⟨rfl, J⟩)
  · have z1 : ¬ v1 < 0 := fun q => bad (Or.inl q)
    have z2 : ¬ nI n ≤ v1 := fun q => bad (Or.inr (Or.inl q))
    have z3 : ¬ v2 < 0 := fun q => bad (Or.inr (Or.inr (Or.inl q)))
    have z4 : ¬ nI n ≤ v2 := fun q => bad (Or.inr (Or.inr (Or.inr (Or.inl q))))
    have z5 : ¬ v3 < 0 := fun q => bad (Or.inr (Or.inr (Or.inr (Or.inr (Or.inl q)))))
    have z6 : ¬ 100 < v3 := fun q => bad (Or.inr (Or.inr (Or.inr (Or.inr (Or.inr q)))))
    obtain ⟨a, ha, rfl⟩ := nI_of z1
    obtain ⟨b, hb, rfl⟩ := nI_of z3
    obtain ⟨c, hc, rfl⟩ := nI_of z5
    rw [nI_leI (by omega) ha] at z2
    rw [nI_leI (by omega) hb] at z4
    have z7 : ¬ 100 < c := fun q => z6 (nI_lt (a := 100) q hc)
    have hE2 : ∀ e, e < m → EU e < n ∧ EV e < n := fun e he => ⟨(hE e he).1, (hE e he).2.1⟩
    obtain ⟨S, hS⟩ := hp_RRe (n := n) (m := m) (EU := EU) (EV := EV) (v := b) (by omega) (fun e he => (hE e he).2.1)
    refine x_addEdge hn hm (by omega) (by omega) (by omega) hE2 hS (fun q => ?_) (fun q w => ?_) (fun q w y => ?_) (fun q w y => ?_)
    · exact y_addEdge hn hm (by omega) (by omega) (by omega) hE2 hS (fun _ => ⟨rfl, J⟩) (fun r _ => absurd q (fun ⟨e, h1, h2⟩ => r e h1 h2)) (fun r _ => absurd q (fun ⟨e, h1, h2⟩ => r e h1 h2)) (fun r _ => absurd q (fun ⟨e, h1, h2⟩ => r e h1 h2))
    · exact y_addEdge hn hm (by omega) (by omega) (by omega) hE2 hS (fun ⟨e, h1, h2⟩ => absurd h2 (q e h1)) (fun _ _ => ⟨rfl, J⟩) (fun _ r => absurd w r) (fun _ r => absurd w r)
    · refine y_addEdge hn hm (by omega) (by omega) (by omega) hE2 hS (fun ⟨e, h1, h2⟩ => absurd h2 (q e h1)) (fun _ r => absurd r w) (fun _ _ _ rc' => ⟨rfl, ?_⟩) (fun _ _ r => absurd y r)
      exact ⟨P, cap, n, m, pl, sp, nw, W, D, EU, EV, EC, RK, OR, PR, ST, FN, BS, PF, RS, RF, rs, rf, us, pc, rc', rfl, rfl, hI, hpl, hPn⟩
    · refine y_addEdge hn hm (by omega) (by omega) (by omega) hE2 hS (fun ⟨e, h1, h2⟩ => absurd h2 (q e h1)) (fun _ r => absurd r w) (fun _ _ r => absurd r y) (fun _ _ _ rc' => ⟨rfl, ?_⟩)
      refine ⟨P, cap, n, m + 1, 0, sp, 0, W, D, _, _, _, RK, OR, PR, ST, FN, BS, PF, RS, RF, rs, rf, us, pc, rc', rfl, rfl, ⟨⟨hP1, hP, hn, by omega, hWb, ?_, hp_topA hT hS y⟩, hcap, hnc, by omega, hD, hW⟩, by omega, fun q => by omega⟩
      intro e he
      by_cases w2 : e = m
      · subst w2
        rw [hp_us, hp_us, hp_us]
        exact ⟨by omega, by omega, by omega⟩
      · rw [hp_un w2, hp_un w2, hp_un w2]
        exact hE e (by omega)
theorem i_vc_setDelay {k : Nat} {u : SX} {v : SY} (I : i_Rel k u v) (hk : k + 5 ≤ 2562) (v1 : Int32) (v2 : Int32) : wpX_setDelay (fun r u' => wpY_setDelay (fun r' v' => r' = r ∧ i_Rel (k + 5) u' v') v v1 v2) u v1 v2 := by
  have J : i_Rel (k + 5) u v := I
  obtain ⟨P, cap, n, m, pl, sp, nw, W, D, EU, EV, EC, RK, OR, PR, ST, FN, BS, PF, RS, RF, rs, rf, us, pc, rc, rfl, rfl, hI, hpl, hPn⟩ := I
  have hI' := hI
  obtain ⟨G, hcap, hnc, hnw, hD, hW⟩ := hI'
  have G' := G
  obtain ⟨hP1, hP, hn, hm, hWb, hE, hT⟩ := G'
  have n1 : ¬ (1 : Int32) = 0 := by decide
  by_cases bad : v1 < 0 ∨ nI n ≤ v1 ∨ v2 < 0 ∨ 100 < v2
  · unfold wpX_setDelay
    refine x_isTask hn (fun q => br_t rfl (y_setDelayB bad ⟨rfl, J⟩)) (fun t ht e => br_f n1 ?_)
    refine x_inRange (fun q => br_t rfl (y_setDelayB bad ⟨rfl, J⟩)) (fun q1 q2 => ?_)
    · subst e
      exact (bad.elim (nI_pos (by omega)) (fun w => w.elim (nI_ge ht (by omega)) (fun w => w.elim q1 q2))).elim
  · have z1 : ¬ v1 < 0 := fun q => bad (Or.inl q)
    have z2 : ¬ nI n ≤ v1 := fun q => bad (Or.inr (Or.inl q))
    have z3 : ¬ v2 < 0 := fun q => bad (Or.inr (Or.inr (Or.inl q)))
    have z4 : ¬ 100 < v2 := fun q => bad (Or.inr (Or.inr (Or.inr q)))
    obtain ⟨t, ht, rfl⟩ := nI_of z1
    obtain ⟨d, hd, rfl⟩ := nI_of z3
    rw [nI_leI (by omega) ht] at z2
    have z5 : ¬ 100 < d := fun q => z4 (nI_lt (a := 100) q hd)
    have h16 : vp_in (nI t) 16 := pk_in t 16 (by omega)
    have hD' : ∀ x, x < n → hp_u D t d x ≤ 100 := fun x hx => by
      by_cases e : x = t
      · subst e; rw [hp_us]; omega
      · rw [hp_un e]; exact hD x hx
    have Y : ∀ post : Int32 → SY → Prop, post 0 (nI P, nI cap, nI n, nI m, nI pl, 0, nI sp, hp_A W, hp_A (hp_u D t d), hp_A EU, hp_A EV, hp_A EC, hp_A RK, hp_A OR, hp_A PR, hp_A ST, hp_A FN, hp_A rs, hp_A rf, hp_A us, hp_A pc, hp_A rc) → wpY_setDelay post (nI P, nI cap, nI n, nI m, nI pl, nI nw, nI sp, hp_A W, hp_A D, hp_A EU, hp_A EV, hp_A EC, hp_A RK, hp_A OR, hp_A PR, hp_A ST, hp_A FN, hp_A rs, hp_A rf, hp_A us, hp_A pc, hp_A rc) (nI t) (nI d) := fun post h =>
      br_f (nI_pos ht) (br_t (nI_lt (by omega) (by omega)) (br_f (nI_pos hd) (br_t (nI_le (b := 100) (by omega) (by decide)) ⟨h16, hp_nu ht h⟩)))
    unfold wpX_setDelay
    refine x_isTask hn (fun q => (q.elim z1 (nI_ge (by omega) (by omega))).elim) (fun _ _ _ => br_f n1 ?_)
    refine x_inRange (fun q => (q.elim z3 z4).elim) (fun _ _ => br_f n1 ⟨h16, hp_nu ht (br_c (fun z => Y _ ⟨rfl, ?_⟩) (fun z => ?_))⟩)
    · have hp0 : ¬ pl = 1 := fun e => by rw [e] at z; exact absurd z (by decide)
      exact ⟨P, cap, n, m, pl, sp, 0, W, _, EU, EV, EC, RK, OR, PR, ST, FN, BS, PF, RS, RF, rs, rf, us, pc, rc, rfl, rfl, ⟨G, hcap, hnc, by omega, hD', hW⟩, hpl, fun q => absurd q hp0⟩
    · obtain ⟨q1, q2, q3⟩ := hPn (hp_pl hpl z)
      refine x_computeReplay G q1 q2 hD' (fun PF' RS' RF' hR => Y _ ⟨rfl, ?_⟩)
      exact ⟨P, cap, n, m, pl, sp, 0, W, _, EU, EV, EC, RK, OR, PR, ST, FN, BS, PF', RS', RF', rs, rf, us, pc, rc, rfl, rfl, ⟨G, hcap, hnc, by omega, hD', hW⟩, hpl, fun _ => ⟨q1, q2, hR⟩⟩
theorem i_vc_plan {k : Nat} {u : SX} {v : SY} (I : i_Rel k u v) (hk : k + 5 ≤ 2562) : wpX_plan (fun r u' => wpY_plan (fun r' v' => r' = r ∧ i_Rel (k + 5) u' v') v) u := by
  have J : i_Rel (k + 5) u v := I
  obtain ⟨P, cap, n, m, pl, sp, nw, W, D, EU, EV, EC, RK, OR, PR, ST, FN, BS, PF, RS, RF, rs, rf, us, pc, rc, rfl, rfl, hI, hpl, hPn⟩ := I
  have hI' := hI
  obtain ⟨G, hcap, hnc, hnw, hD, hW⟩ := hI'
  have G' := G
  obtain ⟨hP1, hP, hn, hm, hWb, hE, hT⟩ := G'
  by_cases hn0 : n = 0
  · subst hn0
    exact br_t rfl (br_t rfl ⟨rfl, J⟩)
  · obtain ⟨L, R, H⟩ := hp_rkE G
    refine x_plan G hD H (by omega) (fun r a BS' PF' RS' RF' hr hS ha hB hb hR => ?_)
    refine y_plan G H hr hS ha hB (by omega) (fun us' pc' => ⟨rfl, ?_⟩)
    have hL := hp_PKe G hS (hp_ZK (PR := PR) (ST := ST) (FN := FN) G hS hB n (Nat.le_refl _))
    exact ⟨P, cap, n, m, 1, _, 0, W, D, EU, EV, EC, r, a, _, _, _, BS', PF', RS', RF', rs, rf, us', pc', rc, rfl, rfl, ⟨G, hcap, hnc, by omega, hD, hW⟩, by omega, fun _ => ⟨hL, hb, hR⟩⟩
theorem i_vc_rank {k : Nat} {u : SX} {v : SY} (I : i_Rel k u v) (hk : k + 5 ≤ 2562) (v1 : Int32) : wpX_rank (fun r => wpY_rank (fun r' => r' = r ∧ i_Rel (k + 5) u v) v v1) u v1 := by
  have J : i_Rel (k + 5) u v := I
  obtain ⟨P, cap, n, m, pl, sp, nw, W, D, EU, EV, EC, RK, OR, PR, ST, FN, BS, PF, RS, RF, rs, rf, us, pc, rc, rfl, rfl, hI, hpl, hPn⟩ := I
  have hI' := hI
  obtain ⟨G, hcap, hnc, hnw, hD, hW⟩ := hI'
  have G' := G
  obtain ⟨hP1, hP, hn, hm, hWb, hE, hT⟩ := G'
  unfold wpX_rank
  refine x_planQueryRefusal hn (fun z => br_f (by decide) (br_t z ⟨rfl, J⟩)) (fun z q => br_f (by decide) ?_) (fun z t ht e => br_t rfl ?_)
  · exact br_f z (br_c (fun _ => ⟨rfl, J⟩) (fun a => br_f (fun b => q.elim a (fun c => absurd (Int32.lt_of_lt_of_le b c) Int32.lt_irrefl)) ⟨rfl, J⟩))
  · subst e
    have h16 : vp_in (nI t) 16 := pk_in t 16 (by omega)
    exact ⟨h16, br_f z (br_f (nI_pos (by omega)) (br_t (nI_lt ht (by omega)) ⟨h16, rfl, J⟩))⟩
theorem i_vc_orderAt {k : Nat} {u : SX} {v : SY} (I : i_Rel k u v) (hk : k + 5 ≤ 2562) (v1 : Int32) : wpX_orderAt (fun r => wpY_orderAt (fun r' => r' = r ∧ i_Rel (k + 5) u v) v v1) u v1 := by
  have J : i_Rel (k + 5) u v := I
  obtain ⟨P, cap, n, m, pl, sp, nw, W, D, EU, EV, EC, RK, OR, PR, ST, FN, BS, PF, RS, RF, rs, rf, us, pc, rc, rfl, rfl, hI, hpl, hPn⟩ := I
  have hI' := hI
  obtain ⟨G, hcap, hnc, hnw, hD, hW⟩ := hI'
  have G' := G
  obtain ⟨hP1, hP, hn, hm, hWb, hE, hT⟩ := G'
  unfold wpX_orderAt
  refine x_planQueryRefusal hn (fun z => br_f (by decide) (br_t z ⟨rfl, J⟩)) (fun z q => br_f (by decide) ?_) (fun z t ht e => br_t rfl ?_)
  · exact br_f z (br_c (fun _ => ⟨rfl, J⟩) (fun a => br_f (fun b => q.elim a (fun c => absurd (Int32.lt_of_lt_of_le b c) Int32.lt_irrefl)) ⟨rfl, J⟩))
  · subst e
    have h16 : vp_in (nI t) 16 := pk_in t 16 (by omega)
    exact ⟨h16, br_f z (br_f (nI_pos (by omega)) (br_t (nI_lt ht (by omega)) ⟨h16, rfl, J⟩))⟩
theorem i_vc_plannedProc {k : Nat} {u : SX} {v : SY} (I : i_Rel k u v) (hk : k + 5 ≤ 2562) (v1 : Int32) : wpX_plannedProc (fun r => wpY_plannedProc (fun r' => r' = r ∧ i_Rel (k + 5) u v) v v1) u v1 := by
  have J : i_Rel (k + 5) u v := I
  obtain ⟨P, cap, n, m, pl, sp, nw, W, D, EU, EV, EC, RK, OR, PR, ST, FN, BS, PF, RS, RF, rs, rf, us, pc, rc, rfl, rfl, hI, hpl, hPn⟩ := I
  have hI' := hI
  obtain ⟨G, hcap, hnc, hnw, hD, hW⟩ := hI'
  have G' := G
  obtain ⟨hP1, hP, hn, hm, hWb, hE, hT⟩ := G'
  unfold wpX_plannedProc
  refine x_planQueryRefusal hn (fun z => br_f (by decide) (br_t z ⟨rfl, J⟩)) (fun z q => br_f (by decide) ?_) (fun z t ht e => br_t rfl ?_)
  · exact br_f z (br_c (fun _ => ⟨rfl, J⟩) (fun a => br_f (fun b => q.elim a (fun c => absurd (Int32.lt_of_lt_of_le b c) Int32.lt_irrefl)) ⟨rfl, J⟩))
  · subst e
    have h16 : vp_in (nI t) 16 := pk_in t 16 (by omega)
    exact ⟨h16, br_f z (br_f (nI_pos (by omega)) (br_t (nI_lt ht (by omega)) ⟨h16, rfl, J⟩))⟩
theorem i_vc_plannedStart {k : Nat} {u : SX} {v : SY} (I : i_Rel k u v) (hk : k + 5 ≤ 2562) (v1 : Int32) : wpX_plannedStart (fun r => wpY_plannedStart (fun r' => r' = r ∧ i_Rel (k + 5) u v) v v1) u v1 := by
  have J : i_Rel (k + 5) u v := I
  obtain ⟨P, cap, n, m, pl, sp, nw, W, D, EU, EV, EC, RK, OR, PR, ST, FN, BS, PF, RS, RF, rs, rf, us, pc, rc, rfl, rfl, hI, hpl, hPn⟩ := I
  have hI' := hI
  obtain ⟨G, hcap, hnc, hnw, hD, hW⟩ := hI'
  have G' := G
  obtain ⟨hP1, hP, hn, hm, hWb, hE, hT⟩ := G'
  unfold wpX_plannedStart
  refine x_planQueryRefusal hn (fun z => br_f (by decide) (br_t z ⟨rfl, J⟩)) (fun z q => br_f (by decide) ?_) (fun z t ht e => br_t rfl ?_)
  · exact br_f z (br_c (fun _ => ⟨rfl, J⟩) (fun a => br_f (fun b => q.elim a (fun c => absurd (Int32.lt_of_lt_of_le b c) Int32.lt_irrefl)) ⟨rfl, J⟩))
  · subst e
    have h16 : vp_in (nI t) 16 := pk_in t 16 (by omega)
    exact ⟨h16, br_f z (br_f (nI_pos (by omega)) (br_t (nI_lt ht (by omega)) ⟨h16, rfl, J⟩))⟩
theorem i_vc_plannedFinish {k : Nat} {u : SX} {v : SY} (I : i_Rel k u v) (hk : k + 5 ≤ 2562) (v1 : Int32) : wpX_plannedFinish (fun r => wpY_plannedFinish (fun r' => r' = r ∧ i_Rel (k + 5) u v) v v1) u v1 := by
  have J : i_Rel (k + 5) u v := I
  obtain ⟨P, cap, n, m, pl, sp, nw, W, D, EU, EV, EC, RK, OR, PR, ST, FN, BS, PF, RS, RF, rs, rf, us, pc, rc, rfl, rfl, hI, hpl, hPn⟩ := I
  have hI' := hI
  obtain ⟨G, hcap, hnc, hnw, hD, hW⟩ := hI'
  have G' := G
  obtain ⟨hP1, hP, hn, hm, hWb, hE, hT⟩ := G'
  unfold wpX_plannedFinish
  refine x_planQueryRefusal hn (fun z => br_f (by decide) (br_t z ⟨rfl, J⟩)) (fun z q => br_f (by decide) ?_) (fun z t ht e => br_t rfl ?_)
  · exact br_f z (br_c (fun _ => ⟨rfl, J⟩) (fun a => br_f (fun b => q.elim a (fun c => absurd (Int32.lt_of_lt_of_le b c) Int32.lt_irrefl)) ⟨rfl, J⟩))
  · subst e
    have h16 : vp_in (nI t) 16 := pk_in t 16 (by omega)
    exact ⟨h16, br_f z (br_f (nI_pos (by omega)) (br_t (nI_lt ht (by omega)) ⟨h16, rfl, J⟩))⟩
theorem i_vc_makespan {k : Nat} {u : SX} {v : SY} (I : i_Rel k u v) (hk : k + 5 ≤ 2562) : wpX_makespan (fun r => wpY_makespan (fun r' => r' = r ∧ i_Rel (k + 5) u v) v) u := by
  have J : i_Rel (k + 5) u v := I
  obtain ⟨P, cap, n, m, pl, sp, nw, W, D, EU, EV, EC, RK, OR, PR, ST, FN, BS, PF, RS, RF, rs, rf, us, pc, rc, rfl, rfl, hI, hpl, hPn⟩ := I
  have hI' := hI
  obtain ⟨G, hcap, hnc, hnw, hD, hW⟩ := hI'
  have G' := G
  obtain ⟨hP1, hP, hn, hm, hWb, hE, hT⟩ := G'
  exact br_c (fun z => br_t z ⟨rfl, J⟩) (fun z => br_f z ⟨rfl, J⟩)
theorem i_vc_run {k : Nat} {u : SX} {v : SY} (I : i_Rel k u v) (hk : k + 5 ≤ 2562) (v1 : Int32) : wpX_run (fun r u' => wpY_run (fun r' v' => r' = r ∧ i_Rel (k + 5) u' v') v v1) u v1 := by
  have J : i_Rel (k + 5) u v := I
  obtain ⟨P, cap, n, m, pl, sp, nw, W, D, EU, EV, EC, RK, OR, PR, ST, FN, BS, PF, RS, RF, rs, rf, us, pc, rc, rfl, rfl, hI, hpl, hPn⟩ := I
  have hI' := hI
  obtain ⟨G, hcap, hnc, hnw, hD, hW⟩ := hI'
  have G' := G
  obtain ⟨hP1, hP, hn, hm, hWb, hE, hT⟩ := G'
  refine br_c (fun z => br_t z ⟨rfl, J⟩) (fun z => ?_)
  have hp1 := hp_pl hpl z
  obtain ⟨q1, q2, q3⟩ := hPn hp1
  refine x_inRange (fun q => br_t rfl ?_) (fun a b => br_f (by decide) ?_)
  · exact br_f z (br_c (fun _ => ⟨rfl, J⟩) (fun a => br_f (fun b => q.elim a (fun c => absurd (Int32.lt_of_lt_of_le c b) Int32.lt_irrefl)) ⟨rfl, J⟩))
  · have h0 : ¬ v1 < 0 := fun q => a (Int32.lt_of_lt_of_le q (nI_pos' (by omega)))
    obtain ⟨c, hc, rfl⟩ := nI_of h0
    have a' : ¬ c < nw := fun q => a (nI_lt q (by omega))
    have b' : ¬ 100000 < c := fun q => b (nI_lt (a := 100000) q hc)
    refine x_finishedCount hn hc (fun t ht => (q3 t ht).2) ?_
    refine br_f z (br_f a (br_t (nI_le (b := 100000) (by omega) (by decide)) ?_))
    refine y_replay G q1 hD q3 (fun rs' rf' hq => y_count hn hc (fun t ht => ?_) ⟨?_, ?_⟩)
    · have e := (hq t ht).2
      have f := (q3 t ht).2
      omega
    · rw [hp_ctC n (fun x hx => (hq x hx).2)]
    · exact ⟨P, cap, n, m, pl, sp, c, W, D, EU, EV, EC, RK, OR, PR, ST, FN, BS, PF, RS, RF, rs', rf', us, pc, rc, rfl, rfl, ⟨G, hcap, hnc, by omega, hD, hW⟩, hpl, hPn⟩
theorem i_vc_clock {k : Nat} {u : SX} {v : SY} (I : i_Rel k u v) (hk : k + 5 ≤ 2562) : wpX_clock (fun r => wpY_clock (fun r' => r' = r ∧ i_Rel (k + 5) u v) v) u := by
  have J : i_Rel (k + 5) u v := I
  obtain ⟨P, cap, n, m, pl, sp, nw, W, D, EU, EV, EC, RK, OR, PR, ST, FN, BS, PF, RS, RF, rs, rf, us, pc, rc, rfl, rfl, hI, hpl, hPn⟩ := I
  have hI' := hI
  obtain ⟨G, hcap, hnc, hnw, hD, hW⟩ := hI'
  have G' := G
  obtain ⟨hP1, hP, hn, hm, hWb, hE, hT⟩ := G'
  exact ⟨rfl, J⟩
theorem i_vc_replayStart {k : Nat} {u : SX} {v : SY} (I : i_Rel k u v) (hk : k + 5 ≤ 2562) (v1 : Int32) : wpX_replayStart (fun r => wpY_replayStart (fun r' v' => r' = r ∧ i_Rel (k + 5) u v') v v1) u v1 := by
  have J : i_Rel (k + 5) u v := I
  obtain ⟨P, cap, n, m, pl, sp, nw, W, D, EU, EV, EC, RK, OR, PR, ST, FN, BS, PF, RS, RF, rs, rf, us, pc, rc, rfl, rfl, hI, hpl, hPn⟩ := I
  have hI' := hI
  obtain ⟨G, hcap, hnc, hnw, hD, hW⟩ := hI'
  have G' := G
  obtain ⟨hP1, hP, hn, hm, hWb, hE, hT⟩ := G'
  unfold wpX_replayStart
  refine x_planQueryRefusal hn (fun z => br_f (by decide) (br_t z ⟨rfl, J⟩)) (fun z q => br_f (by decide) ?_) (fun z t ht e => br_t rfl ?_)
  · exact br_f z (br_c (fun _ => ⟨rfl, J⟩) (fun a => br_f (fun b => q.elim a (fun c => absurd (Int32.lt_of_lt_of_le b c) Int32.lt_irrefl)) ⟨rfl, J⟩))
  · subst e
    have h16 : vp_in (nI t) 16 := pk_in t 16 (by omega)
    have hp1 := hp_pl hpl z
    obtain ⟨q1, q2, q3⟩ := hPn hp1
    have b0 := (q3 t ht).2
    have b1 := (q3 t ht).1.2
    have Y : ∀ post : Int32 → SY → Prop, (∀ rs' rf', (∀ t, t < n → rs' t = RS t ∧ rf' t = RF t) → (nw < RS t → post (-7) (nI P, nI cap, nI n, nI m, nI pl, nI nw, nI sp, hp_A W, hp_A D, hp_A EU, hp_A EV, hp_A EC, hp_A RK, hp_A OR, hp_A PR, hp_A ST, hp_A FN, hp_A rs', hp_A rf', hp_A us, hp_A pc, hp_A rc)) ∧ (¬ nw < RS t → post (nI (RS t)) (nI P, nI cap, nI n, nI m, nI pl, nI nw, nI sp, hp_A W, hp_A D, hp_A EU, hp_A EV, hp_A EC, hp_A RK, hp_A OR, hp_A PR, hp_A ST, hp_A FN, hp_A rs', hp_A rf', hp_A us, hp_A pc, hp_A rc))) → wpY_replayStart post (nI P, nI cap, nI n, nI m, nI pl, nI nw, nI sp, hp_A W, hp_A D, hp_A EU, hp_A EV, hp_A EC, hp_A RK, hp_A OR, hp_A PR, hp_A ST, hp_A FN, hp_A rs, hp_A rf, hp_A us, hp_A pc, hp_A rc) (nI t) := by
      intro post h
      refine br_f z (br_f (nI_pos (by omega)) (br_t (nI_lt ht (by omega)) ?_))
      refine y_replay G q1 hD q3 (fun rs' rf' hq => ⟨h16, ?_⟩)
      obtain ⟨g1, g2⟩ := h rs' rf' hq
      have w1 := (hq t ht).1
      have w2 := (hq t ht).2
      rw [hp_rd (f := rs') (j := t) (by omega), w1]
      exact pk_lt nw (RS t) (fun y => g1 y) (fun y => ⟨h16, g2 (by omega)⟩)
    refine ⟨h16, ?_⟩
    rw [hp_rd (f := RS) (j := t) (by omega)]
    refine pk_lt nw (RS t) (fun y => Y _ (fun rs' rf' _ => ⟨fun _ => ⟨rfl, ?_⟩, fun w => absurd y w⟩)) (fun y => Y _ (fun rs' rf' _ => ⟨fun w => by omega, fun _ => ⟨rfl, ?_⟩⟩))
    · exact ⟨P, cap, n, m, pl, sp, nw, W, D, EU, EV, EC, RK, OR, PR, ST, FN, BS, PF, RS, RF, rs', rf', us, pc, rc, rfl, rfl, hI, hpl, hPn⟩
    · exact ⟨P, cap, n, m, pl, sp, nw, W, D, EU, EV, EC, RK, OR, PR, ST, FN, BS, PF, RS, RF, rs', rf', us, pc, rc, rfl, rfl, hI, hpl, hPn⟩
theorem i_vc_replayFinish {k : Nat} {u : SX} {v : SY} (I : i_Rel k u v) (hk : k + 5 ≤ 2562) (v1 : Int32) : wpX_replayFinish (fun r => wpY_replayFinish (fun r' v' => r' = r ∧ i_Rel (k + 5) u v') v v1) u v1 := by
  have J : i_Rel (k + 5) u v := I
  obtain ⟨P, cap, n, m, pl, sp, nw, W, D, EU, EV, EC, RK, OR, PR, ST, FN, BS, PF, RS, RF, rs, rf, us, pc, rc, rfl, rfl, hI, hpl, hPn⟩ := I
  have hI' := hI
  obtain ⟨G, hcap, hnc, hnw, hD, hW⟩ := hI'
  have G' := G
  obtain ⟨hP1, hP, hn, hm, hWb, hE, hT⟩ := G'
  unfold wpX_replayFinish
  refine x_planQueryRefusal hn (fun z => br_f (by decide) (br_t z ⟨rfl, J⟩)) (fun z q => br_f (by decide) ?_) (fun z t ht e => br_t rfl ?_)
  · exact br_f z (br_c (fun _ => ⟨rfl, J⟩) (fun a => br_f (fun b => q.elim a (fun c => absurd (Int32.lt_of_lt_of_le b c) Int32.lt_irrefl)) ⟨rfl, J⟩))
  · subst e
    have h16 : vp_in (nI t) 16 := pk_in t 16 (by omega)
    have hp1 := hp_pl hpl z
    obtain ⟨q1, q2, q3⟩ := hPn hp1
    have b0 := (q3 t ht).2
    have b1 := (q3 t ht).1.2
    have Y : ∀ post : Int32 → SY → Prop, (∀ rs' rf', (∀ t, t < n → rs' t = RS t ∧ rf' t = RF t) → (nw < RF t → post (-7) (nI P, nI cap, nI n, nI m, nI pl, nI nw, nI sp, hp_A W, hp_A D, hp_A EU, hp_A EV, hp_A EC, hp_A RK, hp_A OR, hp_A PR, hp_A ST, hp_A FN, hp_A rs', hp_A rf', hp_A us, hp_A pc, hp_A rc)) ∧ (¬ nw < RF t → post (nI (RF t)) (nI P, nI cap, nI n, nI m, nI pl, nI nw, nI sp, hp_A W, hp_A D, hp_A EU, hp_A EV, hp_A EC, hp_A RK, hp_A OR, hp_A PR, hp_A ST, hp_A FN, hp_A rs', hp_A rf', hp_A us, hp_A pc, hp_A rc))) → wpY_replayFinish post (nI P, nI cap, nI n, nI m, nI pl, nI nw, nI sp, hp_A W, hp_A D, hp_A EU, hp_A EV, hp_A EC, hp_A RK, hp_A OR, hp_A PR, hp_A ST, hp_A FN, hp_A rs, hp_A rf, hp_A us, hp_A pc, hp_A rc) (nI t) := by
      intro post h
      refine br_f z (br_f (nI_pos (by omega)) (br_t (nI_lt ht (by omega)) ?_))
      refine y_replay G q1 hD q3 (fun rs' rf' hq => ⟨h16, ?_⟩)
      obtain ⟨g1, g2⟩ := h rs' rf' hq
      have w1 := (hq t ht).1
      have w2 := (hq t ht).2
      rw [hp_rd (f := rf') (j := t) (by omega), w2]
      exact pk_lt nw (RF t) (fun y => g1 y) (fun y => ⟨h16, g2 (by omega)⟩)
    refine ⟨h16, ?_⟩
    rw [hp_rd (f := RF) (j := t) (by omega)]
    refine pk_lt nw (RF t) (fun y => Y _ (fun rs' rf' _ => ⟨fun _ => ⟨rfl, ?_⟩, fun w => absurd y w⟩)) (fun y => Y _ (fun rs' rf' _ => ⟨fun w => by omega, fun _ => ⟨rfl, ?_⟩⟩))
    · exact ⟨P, cap, n, m, pl, sp, nw, W, D, EU, EV, EC, RK, OR, PR, ST, FN, BS, PF, RS, RF, rs', rf', us, pc, rc, rfl, rfl, hI, hpl, hPn⟩
    · exact ⟨P, cap, n, m, pl, sp, nw, W, D, EU, EV, EC, RK, OR, PR, ST, FN, BS, PF, RS, RF, rs', rf', us, pc, rc, rfl, rfl, hI, hpl, hPn⟩
theorem i_vc_taskCount {k : Nat} {u : SX} {v : SY} (I : i_Rel k u v) (hk : k + 5 ≤ 2562) : wpX_taskCount (fun r => wpY_taskCount (fun r' => r' = r ∧ i_Rel (k + 5) u v) v) u := by
  have J : i_Rel (k + 5) u v := I
  obtain ⟨P, cap, n, m, pl, sp, nw, W, D, EU, EV, EC, RK, OR, PR, ST, FN, BS, PF, RS, RF, rs, rf, us, pc, rc, rfl, rfl, hI, hpl, hPn⟩ := I
  have hI' := hI
  obtain ⟨G, hcap, hnc, hnw, hD, hW⟩ := hI'
  have G' := G
  obtain ⟨hP1, hP, hn, hm, hWb, hE, hT⟩ := G'
  exact ⟨rfl, J⟩
theorem i_vc_edgeCount {k : Nat} {u : SX} {v : SY} (I : i_Rel k u v) (hk : k + 5 ≤ 2562) : wpX_edgeCount (fun r => wpY_edgeCount (fun r' => r' = r ∧ i_Rel (k + 5) u v) v) u := by
  have J : i_Rel (k + 5) u v := I
  obtain ⟨P, cap, n, m, pl, sp, nw, W, D, EU, EV, EC, RK, OR, PR, ST, FN, BS, PF, RS, RF, rs, rf, us, pc, rc, rfl, rfl, hI, hpl, hPn⟩ := I
  have hI' := hI
  obtain ⟨G, hcap, hnc, hnw, hD, hW⟩ := hI'
  have G' := G
  obtain ⟨hP1, hP, hn, hm, hWb, hE, hT⟩ := G'
  exact ⟨rfl, J⟩
