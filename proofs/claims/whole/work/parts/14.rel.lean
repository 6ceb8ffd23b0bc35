/-! ===== the relation ===== -/
def hp_I (P cap n m nw : Nat) (W D EU EV EC : Nat → Nat) : Prop :=
  hp_G P n m W EU EV EC ∧ cap ≤ 16 ∧ n ≤ cap ∧ nw ≤ 100000 ∧ (∀ t, t < n → D t ≤ 100) ∧ (∀ i, n * 4 ≤ i → W i = 0)
def hp_Pn (P n m : Nat) (W D EU EV EC PR ST FN BS RS RF : Nat → Nat) : Prop :=
  hp_Pl P n m W EU EV PR ST FN ∧ hp_So n ST BS ∧ hp_Rp n m W D EU EV EC PR ST RS RF
/-- the same graph, the same plan; where there is a plan, the class holds its replay ready -/
def i_Rel (_ : Nat) (u : SX) (v : SY) : Prop :=
  ∃ (P cap n m pl sp nw : Nat) (W D EU EV EC RK OR PR ST FN BS PF RS RF rs rf us pc rc : Nat → Nat),
    u = (nI P, nI cap, nI n, nI m, nI pl, nI sp, nI nw, hp_A W, hp_A D, hp_A EU, hp_A EV, hp_A EC, hp_A RK, hp_A OR, hp_A PR, hp_A ST, hp_A FN, hp_A BS, hp_A PF, hp_A RS, hp_A RF) ∧ v = (nI P, nI cap, nI n, nI m, nI pl, nI nw, nI sp, hp_A W, hp_A D, hp_A EU, hp_A EV, hp_A EC, hp_A RK, hp_A OR, hp_A PR, hp_A ST, hp_A FN, hp_A rs, hp_A rf, hp_A us, hp_A pc, hp_A rc) ∧
    hp_I P cap n m nw W D EU EV EC ∧ pl ≤ 1 ∧ (pl = 1 → hp_Pn P n m W D EU EV EC PR ST FN BS RS RF)
theorem i_up {k : Nat} {u : SX} {v : SY} (h : i_Rel k u v) : i_Rel (k + 5) u v := h
theorem hp_pl {pl : Nat} (h : pl ≤ 1) (z : ¬ nI pl = 0) : pl = 1 := by
  by_cases e : pl = 0
  · subst e; exact absurd nI_0 z
  · omega
theorem x_clampM {p q : Int32 → Prop} (h : ∀ r, p r → q r) {a b c : Int32} (g : wpX_clamp p a b c) : wpX_clamp q a b c :=
  ⟨fun z => ⟨fun y => h _ ((g.1 z).1 y), fun y => h _ ((g.1 z).2 y)⟩, fun z => h _ (g.2 z)⟩
theorem hp_cl {v : Int32} {M : Nat} (hM : M < 2 ^ 31) (h1 : 1 ≤ v) (h2 : v ≤ nI M) : ∃ j, 1 ≤ j ∧ j ≤ M ∧ v = nI j := by
  have h0 : ¬ v < 0 := fun q => absurd (Int32.lt_of_le_of_lt h1 q) (by decide)
  obtain ⟨j, hj, rfl⟩ := nI_of h0
  have a : nI 1 ≤ nI j := h1
  rw [nI_leI (by decide) hj] at a
  rw [nI_leI hj hM] at h2
  exact ⟨j, a, h2, rfl⟩
theorem hp_init {P cap : Nat} (h1 : 1 ≤ P) (h2 : P ≤ 4) (h3 : cap ≤ 16) :
    i_Rel 2 (nI P, nI cap, 0, 0, 0, 0, 0, (fun _ => 0), (fun _ => 0), (fun _ => 0), (fun _ => 0), (fun _ => 0), (fun _ => 0), (fun _ => 0), (fun _ => 0), (fun _ => 0), (fun _ => 0), (fun _ => 0), (fun _ => 0), (fun _ => 0), (fun _ => 0))
      (nI P, nI cap, 0, 0, 0, 0, 0, (fun _ => 0), (fun _ => 0), (fun _ => 0), (fun _ => 0), (fun _ => 0), (fun _ => 0), (fun _ => 0), (fun _ => 0), (fun _ => 0), (fun _ => 0), (fun _ => 0), (fun _ => 0), (fun _ => 0), (fun _ => 0), (fun _ => 0)) := by
  refine ⟨P, cap, 0, 0, 0, 0, 0, (fun _ => 0), (fun _ => 0), (fun _ => 0), (fun _ => 0), (fun _ => 0), (fun _ => 0), (fun _ => 0), (fun _ => 0), (fun _ => 0), (fun _ => 0), (fun _ => 0), (fun _ => 0), (fun _ => 0), (fun _ => 0), (fun _ => 0), (fun _ => 0), (fun _ => 0), (fun _ => 0), (fun _ => 0), ?_, ?_, ⟨⟨h1, h2, by omega, by omega, fun t p ht => by omega, fun e he => by omega, fun _ => 0, fun e he => by omega⟩, h3, by omega, by omega, fun t ht => by omega, fun _ _ => rfl⟩, by omega, fun q => by omega⟩
  · rw [hp_A0, nI_0]
  · rw [hp_A0, nI_0]
theorem i_vc0 (k0 : Int32) (k1 : Int32) : wpX_init (fun u => wpY_init (fun v => i_Rel 2 u v) k0 k1) k0 k1 := by
  have fin : ∀ P, 1 ≤ P → P ≤ 4 → wpX_clamp (fun r => wY_init_144 (fun v => i_Rel 2 (nI P, r, 0, 0, 0, 0, 0, (fun _ => 0), (fun _ => 0), (fun _ => 0), (fun _ => 0), (fun _ => 0), (fun _ => 0), (fun _ => 0), (fun _ => 0), (fun _ => 0), (fun _ => 0), (fun _ => 0), (fun _ => 0), (fun _ => 0), (fun _ => 0)) v) k1 (nI P) 0 0 0 0 0 0 0 (fun _ => 0) (fun _ => 0) (fun _ => 0) (fun _ => 0) (fun _ => 0) (fun _ => 0) (fun _ => 0) (fun _ => 0) (fun _ => 0) (fun _ => 0) (fun _ => 0) (fun _ => 0) (fun _ => 0) (fun _ => 0) (fun _ => 0)) k1 1 16 := by
    intro P h1 h2
    refine br_c (fun a => br_c (fun b => ?_) (fun b => ?_)) (fun a => ?_)
    · obtain ⟨j, j1, j2, e⟩ := hp_cl (M := 16) (by decide) a b
      subst e
      exact br_t a (br_t b (hp_init h1 h2 j2))
    · exact br_t a (br_f b (hp_init (cap := 16) h1 h2 (by omega)))
    · exact br_f a (hp_init (cap := 1) h1 h2 (by omega))
  by_cases a : 1 ≤ k0
  · by_cases b : k0 ≤ 4
    · obtain ⟨j, j1, j2, e⟩ := hp_cl (M := 4) (by decide) a b
      subst e
      exact br_t a (br_t b (x_clampM (fun r h => br_t a (br_t b h)) (fin j j1 j2)))
    · exact br_t a (br_f b (x_clampM (fun r h => br_t a (br_f b h)) (fin 4 (by omega) (by omega))))
  · exact br_f a (x_clampM (fun r h => br_f a h) (fin 1 (by omega) (by omega)))
section
variable {P n m : Nat} {cp pl sp nw : Int32} {W D EU EV EC RK OR PR ST FN BS PF RS RF : Nat → Nat}
/-! ===== a task ===== -/
theorem hp_gd {c : Int32} (h1 : ¬ c < 1) (h2 : ¬ 100 < c) : ∃ d, 1 ≤ d ∧ d ≤ 100 ∧ c = nI d := by
  have h0 : ¬ c < 0 := fun q => h1 (Int32.lt_trans q (by decide))
  obtain ⟨d, hd, rfl⟩ := nI_of h0
  have a : ¬ d < 1 := fun q => h1 (nI_lt (b := 1) q (by decide))
  have b : ¬ 100 < d := fun q => h2 (nI_lt (a := 100) q hd)
  exact ⟨d, by omega, by omega, rfl⟩
def hp_B (c : Int32) : Prop := c < 1 ∨ 100 < c
theorem hp_dd (P p : Nat) {c : Int32} (h : p < P → ¬ hp_B c) : ∃ d, (p < P → c = nI d ∧ 1 ≤ d ∧ d ≤ 100) ∧ (P ≤ p → d = 0) := by
  by_cases z : p < P
  · have q := h z
    obtain ⟨d, d1, d2, d3⟩ := hp_gd (fun w => q (Or.inl w)) (fun w => q (Or.inr w))
    exact ⟨d, fun _ => ⟨d3, d1, d2⟩, fun w => by omega⟩
  · exact ⟨0, fun w => by omega, fun _ => rfl⟩
theorem x_costFits {post : Int32 → Prop} {p : Nat} {c : Int32} (hP : P ≤ 4) (hp : p < 4) (h1 : (p < P → ¬ hp_B c) → post 1) (h0 : p < P → hp_B c → post 0) : wpX_costFits post (nI P, cp, nI n, nI m, pl, sp, nw, hp_A W, hp_A D, hp_A EU, hp_A EV, hp_A EC, hp_A RK, hp_A OR, hp_A PR, hp_A ST, hp_A FN, hp_A BS, hp_A PF, hp_A RS, hp_A RF) (nI p) c :=
  pk_le P p (fun z => h1 (fun q => by omega)) (fun z => x_inRange (fun q => br_t rfl (h0 z q)) (fun q1 q2 => br_f (by decide) (h1 (fun _ w => w.elim q1 q2))))
theorem x_storeCost {post : SX → Prop} {t p d : Nat} {c : Int32} (hP : P ≤ 4) (ht : t < 16) (hp : p < 4) (hW : W (t * 4 + p) = 0) (h1 : p < P → c = nI d) (h0 : P ≤ p → d = 0) (h : post (nI P, cp, nI n, nI m, pl, sp, nw, hp_A (hp_u W (t * 4 + p) d), hp_A D, hp_A EU, hp_A EV, hp_A EC, hp_A RK, hp_A OR, hp_A PR, hp_A ST, hp_A FN, hp_A BS, hp_A PF, hp_A RS, hp_A RF)) : wpX_storeCost post (nI P, cp, nI n, nI m, pl, sp, nw, hp_A W, hp_A D, hp_A EU, hp_A EV, hp_A EC, hp_A RK, hp_A OR, hp_A PR, hp_A ST, hp_A FN, hp_A BS, hp_A PF, hp_A RS, hp_A RF) (nI t) (nI p) c := by
  refine pk_le P p (fun z => ?_) (fun z => ?_)
  · rw [h0 z, hp_ueq hW] at h
    exact h
  · rw [hp_ix, h1 z]
    exact ⟨pk_in (t * 4 + p) 64 (by omega), hp_nu (by omega) h⟩
theorem x_addTaskB {post : Int32 → SX → Prop} {c0 c1 c2 c3 : Int32} {cap : Nat} (hP : P ≤ 4) (hc : cap ≤ 16) (hn : n < cap) (hb : ¬ ((0 < P → ¬ hp_B c0) ∧ (1 < P → ¬ hp_B c1) ∧ (2 < P → ¬ hp_B c2) ∧ (3 < P → ¬ hp_B c3))) (h : post (-1) (nI P, nI cap, nI n, nI m, pl, sp, nw, hp_A W, hp_A D, hp_A EU, hp_A EV, hp_A EC, hp_A RK, hp_A OR, hp_A PR, hp_A ST, hp_A FN, hp_A BS, hp_A PF, hp_A RS, hp_A RF)) : wpX_addTask post (nI P, nI cap, nI n, nI m, pl, sp, nw, hp_A W, hp_A D, hp_A EU, hp_A EV, hp_A EC, hp_A RK, hp_A OR, hp_A PR, hp_A ST, hp_A FN, hp_A BS, hp_A PF, hp_A RS, hp_A RF) c0 c1 c2 c3 := by
  refine pk_eq n cap (fun z => by omega) (fun z => ?_)
  refine x_costFits (p := 0) hP (by omega) (fun g0 => br_f (by decide) ?_) (fun _ _ => br_t rfl h)
  refine x_costFits (p := 1) hP (by omega) (fun g1 => br_f (by decide) ?_) (fun _ _ => br_t rfl h)
  refine x_costFits (p := 2) hP (by omega) (fun g2 => br_f (by decide) ?_) (fun _ _ => br_t rfl h)
  exact x_costFits (p := 3) hP (by omega) (fun g3 => absurd ⟨g0, g1, g2, g3⟩ hb) (fun _ _ => br_t rfl h)
theorem x_addTask {post : Int32 → SX → Prop} {c0 c1 c2 c3 : Int32} {cap d0 d1 d2 d3 : Nat} (hP : P ≤ 4) (hc : cap ≤ 16) (hn : n < cap) (hW : ∀ i, n * 4 ≤ i → W i = 0) (g0 : 0 < P → ¬ hp_B c0) (g1 : 1 < P → ¬ hp_B c1) (g2 : 2 < P → ¬ hp_B c2) (g3 : 3 < P → ¬ hp_B c3)
    (e0 : (0 < P → c0 = nI d0) ∧ (P ≤ 0 → d0 = 0)) (e1 : (1 < P → c1 = nI d1) ∧ (P ≤ 1 → d1 = 0)) (e2 : (2 < P → c2 = nI d2) ∧ (P ≤ 2 → d2 = 0)) (e3 : (3 < P → c3 = nI d3) ∧ (P ≤ 3 → d3 = 0))
    (h : post (nI n) (nI P, nI cap, nI (n + 1), nI m, 0, sp, 0, hp_A (hp_u (hp_u (hp_u (hp_u W (n * 4) d0) (n * 4 + 1) d1) (n * 4 + 2) d2) (n * 4 + 3) d3), hp_A (hp_u D n 0), hp_A EU, hp_A EV, hp_A EC, hp_A RK, hp_A OR, hp_A PR, hp_A ST, hp_A FN, hp_A BS, hp_A PF, hp_A RS, hp_A RF)) : wpX_addTask post (nI P, nI cap, nI n, nI m, pl, sp, nw, hp_A W, hp_A D, hp_A EU, hp_A EV, hp_A EC, hp_A RK, hp_A OR, hp_A PR, hp_A ST, hp_A FN, hp_A BS, hp_A PF, hp_A RS, hp_A RF) c0 c1 c2 c3 := by
  refine pk_eq n cap (fun z => by omega) (fun z => ?_)
  refine x_costFits (p := 0) hP (by omega) (fun _ => br_f (by decide) ?_) (fun a b => absurd b (g0 a))
  refine x_costFits (p := 1) hP (by omega) (fun _ => br_f (by decide) ?_) (fun a b => absurd b (g1 a))
  refine x_costFits (p := 2) hP (by omega) (fun _ => br_f (by decide) ?_) (fun a b => absurd b (g2 a))
  refine x_costFits (p := 3) hP (by omega) (fun _ => br_f (by decide) ?_) (fun a b => absurd b (g3 a))
  refine x_storeCost (p := 0) (d := d0) hP (by omega) (by omega) (hW _ (by omega)) e0.1 e0.2 ?_
  refine x_storeCost (p := 1) (d := d1) hP (by omega) (by omega) (by rw [hp_un (by omega)]; exact hW _ (by omega)) e1.1 e1.2 ?_
  refine x_storeCost (p := 2) (d := d2) hP (by omega) (by omega) (by rw [hp_un (by omega), hp_un (by omega)]; exact hW _ (by omega)) e2.1 e2.2 ?_
  refine x_storeCost (p := 3) (d := d3) hP (by omega) (by omega) (by rw [hp_un (by omega), hp_un (by omega), hp_un (by omega)]; exact hW _ (by omega)) e3.1 e3.2 ?_
  exact ⟨pk_in n 16 (by omega), hp_nu (v := 0) (by omega) (hp_n1 h)⟩
end
section
variable {P n m : Nat} {cp pl ck mk : Int32} {W D EU EV EC RK OR PR ST FN rs rf us pc rc : Nat → Nat}
theorem y_addTaskB {post : Int32 → SY → Prop} {c0 c1 c2 c3 : Int32} {cap : Nat} (hP1 : 1 ≤ P) (hP : P ≤ 4) (hc : cap ≤ 16) (hn : n < cap) (hb : ¬ ((0 < P → ¬ hp_B c0) ∧ (1 < P → ¬ hp_B c1) ∧ (2 < P → ¬ hp_B c2) ∧ (3 < P → ¬ hp_B c3))) (h : post (-1) (nI P, nI cap, nI n, nI m, pl, ck, mk, hp_A W, hp_A D, hp_A EU, hp_A EV, hp_A EC, hp_A RK, hp_A OR, hp_A PR, hp_A ST, hp_A FN, hp_A rs, hp_A rf, hp_A us, hp_A pc, hp_A rc)) : wpY_addTask post (nI P, nI cap, nI n, nI m, pl, ck, mk, hp_A W, hp_A D, hp_A EU, hp_A EV, hp_A EC, hp_A RK, hp_A OR, hp_A PR, hp_A ST, hp_A FN, hp_A rs, hp_A rf, hp_A us, hp_A pc, hp_A rc) c0 c1 c2 c3 := by
  refine pk_eq n cap (fun z => by omega) (fun z => ?_)
  have bad : ∀ {c : Int32} {Q : Int32 → Prop}, (hp_B c → Q 1) → (¬ hp_B c → Q 0) → wpY_bad Q (nI P, nI cap, nI n, nI m, pl, ck, mk, hp_A W, hp_A D, hp_A EU, hp_A EV, hp_A EC, hp_A RK, hp_A OR, hp_A PR, hp_A ST, hp_A FN, hp_A rs, hp_A rf, hp_A us, hp_A pc, hp_A rc) c := fun h1 h0 => y_bad h1 (fun q1 q2 => h0 (fun w => w.elim q1 q2))
  have n1 : ¬ (1 : Int32) = 0 := by decide
  have k60 : (0 < P → ¬ hp_B c0) → (1 < P → ¬ hp_B c1) → (2 < P → ¬ hp_B c2) → wY_addTask_60 post c0 c1 c2 c3 (nI P) (nI cap) (nI n) (nI m) pl ck mk (hp_A W) (hp_A D) (hp_A EU) (hp_A EV) (hp_A EC) (hp_A RK) (hp_A OR) (hp_A PR) (hp_A ST) (hp_A FN) (hp_A rs) (hp_A rf) (hp_A us) (hp_A pc) (hp_A rc) := fun g0 g1 g2 =>
    pk_lt P 4 (fun w => absurd ⟨g0, g1, g2, fun q => by omega⟩ hb) (fun w => bad (fun q => br_f n1 h) (fun q => absurd ⟨g0, g1, g2, fun _ => q⟩ hb))
  have k42 : (0 < P → ¬ hp_B c0) → (1 < P → ¬ hp_B c1) → wY_addTask_42 post c0 c1 c2 c3 (nI P) (nI cap) (nI n) (nI m) pl ck mk (hp_A W) (hp_A D) (hp_A EU) (hp_A EV) (hp_A EC) (hp_A RK) (hp_A OR) (hp_A PR) (hp_A ST) (hp_A FN) (hp_A rs) (hp_A rf) (hp_A us) (hp_A pc) (hp_A rc) := fun g0 g1 =>
    pk_lt P 3 (fun w => k60 g0 g1 (fun q => by omega)) (fun w => bad (fun q => br_f n1 h) (fun q => br_t rfl (k60 g0 g1 (fun _ => q))))
  exact bad (fun q => br_f n1 h) (fun q0 => br_t rfl (pk_lt P 2 (fun w => k42 (fun _ => q0) (fun q => by omega)) (fun w => bad (fun q => br_f n1 h) (fun q => br_t rfl (k42 (fun _ => q0) (fun _ => q))))))
theorem y_addTask {post : Int32 → SY → Prop} {c0 c1 c2 c3 : Int32} {cap d0 d1 d2 d3 : Nat} (hP1 : 1 ≤ P) (hP : P ≤ 4) (hc : cap ≤ 16) (hn : n < cap) (g0 : 0 < P → ¬ hp_B c0) (g1 : 1 < P → ¬ hp_B c1) (g2 : 2 < P → ¬ hp_B c2) (g3 : 3 < P → ¬ hp_B c3)
    (e0 : (0 < P → c0 = nI d0) ∧ (P ≤ 0 → d0 = 0)) (e1 : (1 < P → c1 = nI d1) ∧ (P ≤ 1 → d1 = 0)) (e2 : (2 < P → c2 = nI d2) ∧ (P ≤ 2 → d2 = 0)) (e3 : (3 < P → c3 = nI d3) ∧ (P ≤ 3 → d3 = 0))
    (h : post (nI n) (nI P, nI cap, nI (n + 1), nI m, 0, 0, mk, hp_A (hp_u (hp_u (hp_u (hp_u W (n * 4) d0) (n * 4 + 1) d1) (n * 4 + 2) d2) (n * 4 + 3) d3), hp_A (hp_u D n 0), hp_A EU, hp_A EV, hp_A EC, hp_A RK, hp_A OR, hp_A PR, hp_A ST, hp_A FN, hp_A rs, hp_A rf, hp_A us, hp_A pc, hp_A rc)) : wpY_addTask post (nI P, nI cap, nI n, nI m, pl, ck, mk, hp_A W, hp_A D, hp_A EU, hp_A EV, hp_A EC, hp_A RK, hp_A OR, hp_A PR, hp_A ST, hp_A FN, hp_A rs, hp_A rf, hp_A us, hp_A pc, hp_A rc) c0 c1 c2 c3 := by
  refine pk_eq n cap (fun z => by omega) (fun z => ?_)
  have good : ∀ {c : Int32} {Q : Int32 → Prop}, ¬ hp_B c → Q 0 → wpY_bad Q (nI P, nI cap, nI n, nI m, pl, ck, mk, hp_A W, hp_A D, hp_A EU, hp_A EV, hp_A EC, hp_A RK, hp_A OR, hp_A PR, hp_A ST, hp_A FN, hp_A rs, hp_A rf, hp_A us, hp_A pc, hp_A rc) c := fun hn h0 => y_bad (fun q => absurd q hn) (fun _ _ => h0)
  have mul4 : nI n * 4 = nI (n * 4) := pk_mul n 4
  have add4 : ∀ j, nI n * 4 + nI j = nI (n * 4 + j) := fun j => hp_ix n j
  have k169 : wY_addTask_169 post (nI d3) (nI n * 4 + 3) (nI P) (nI cap) (nI n) (nI m) pl ck mk (hp_A (hp_u (hp_u (hp_u W (n * 4) d0) (n * 4 + 1) d1) (n * 4 + 2) d2)) (hp_A D) (hp_A EU) (hp_A EV) (hp_A EC) (hp_A RK) (hp_A OR) (hp_A PR) (hp_A ST) (hp_A FN) (hp_A rs) (hp_A rf) (hp_A us) (hp_A pc) (hp_A rc) := by
    rw [show nI n * 4 + 3 = nI (n * 4 + 3) from add4 3]
    refine ⟨pk_in (n * 4 + 3) 64 (by omega), hp_nu (by omega) ⟨pk_in n 16 (by omega), hp_nu (v := 0) (by omega) (hp_n1 ?_)⟩⟩
    rw [← nI_pred n] at h
    exact h
  have k142 : wY_addTask_142 post c3 (nI d2) (nI n * 4 + 2) (nI P) (nI cap) (nI n) (nI m) pl ck mk (hp_A (hp_u (hp_u W (n * 4) d0) (n * 4 + 1) d1)) (hp_A D) (hp_A EU) (hp_A EV) (hp_A EC) (hp_A RK) (hp_A OR) (hp_A PR) (hp_A ST) (hp_A FN) (hp_A rs) (hp_A rf) (hp_A us) (hp_A pc) (hp_A rc) := by
    rw [show nI n * 4 + 2 = nI (n * 4 + 2) from add4 2]
    refine ⟨pk_in (n * 4 + 2) 64 (by omega), hp_nu (by omega) (pk_lt P 4 (fun w => ?_) (fun w => ?_))⟩
    · rw [e3.2 (by omega)] at k169
      exact k169
    · rw [e3.1 (by omega)]
      exact k169
  have k116 : wY_addTask_116 post c2 c3 (nI d1) (nI n * 4 + 1) (nI P) (nI cap) (nI n) (nI m) pl ck mk (hp_A (hp_u W (n * 4) d0)) (hp_A D) (hp_A EU) (hp_A EV) (hp_A EC) (hp_A RK) (hp_A OR) (hp_A PR) (hp_A ST) (hp_A FN) (hp_A rs) (hp_A rf) (hp_A us) (hp_A pc) (hp_A rc) := by
    rw [show nI n * 4 + 1 = nI (n * 4 + 1) from add4 1]
    refine ⟨pk_in (n * 4 + 1) 64 (by omega), hp_nu (by omega) (pk_lt P 3 (fun w => ?_) (fun w => ?_))⟩
    · rw [e2.2 (by omega)] at k142
      exact k142
    · rw [e2.1 (by omega)]
      exact k142
  have k79 : wY_addTask_79 post c0 c1 c2 c3 (nI P) (nI cap) (nI n) (nI m) pl ck mk (hp_A W) (hp_A D) (hp_A EU) (hp_A EV) (hp_A EC) (hp_A RK) (hp_A OR) (hp_A PR) (hp_A ST) (hp_A FN) (hp_A rs) (hp_A rf) (hp_A us) (hp_A pc) (hp_A rc) := by
    unfold wY_addTask_79
    rw [mul4, e0.1 (by omega)]
    refine ⟨pk_in (n * 4) 64 (by omega), hp_nu (by omega) (pk_lt P 2 (fun w => ?_) (fun w => ?_))⟩
    · rw [e1.2 (by omega), mul4] at k116
      exact k116
    · rw [e1.1 (by omega)]
      rw [mul4] at k116
      exact k116
  have k60 : wY_addTask_60 post c0 c1 c2 c3 (nI P) (nI cap) (nI n) (nI m) pl ck mk (hp_A W) (hp_A D) (hp_A EU) (hp_A EV) (hp_A EC) (hp_A RK) (hp_A OR) (hp_A PR) (hp_A ST) (hp_A FN) (hp_A rs) (hp_A rf) (hp_A us) (hp_A pc) (hp_A rc) := pk_lt P 4 (fun w => k79) (fun w => good (g3 (by omega)) (br_t rfl k79))
  have k42 : wY_addTask_42 post c0 c1 c2 c3 (nI P) (nI cap) (nI n) (nI m) pl ck mk (hp_A W) (hp_A D) (hp_A EU) (hp_A EV) (hp_A EC) (hp_A RK) (hp_A OR) (hp_A PR) (hp_A ST) (hp_A FN) (hp_A rs) (hp_A rf) (hp_A us) (hp_A pc) (hp_A rc) := pk_lt P 3 (fun w => k60) (fun w => good (g2 (by omega)) (br_t rfl k60))
  exact good (g0 (by omega)) (br_t rfl (pk_lt P 2 (fun w => k42) (fun w => good (g1 (by omega)) (br_t rfl k42))))
end
