section
theorem pk_us {f : Nat → Int32} {k : Nat} {x : Int32} : upd f k x k = x := if_pos rfl
theorem pk_un {f : Nat → Int32} {k j : Nat} {x : Int32} (h : j ≠ k) : upd f k x j = f j := if_neg h
theorem pk_sub {a b : Nat} (h : b ≤ a) : nI a - nI b = nI (a - b) := by
  obtain ⟨c, rfl⟩ : ∃ c, a = c + b := ⟨a - b, by omega⟩
  rw [← nI_add, Int32.add_sub_cancel, Nat.add_sub_cancel]
theorem pk_m1 (n : Nat) : nI (n + 1) + (-1) = nI n := by
  rw [← nI_1, Int32.add_assoc, show (1 : Int32) + (-1) = 0 from rfl, Int32.add_zero]
theorem pk_mul (a b : Nat) : nI a * nI b = nI (a * b) := (Int32.ofNat_mul a b).symm
theorem pk_ix (x : Int32) {n : Nat} (hn : n < 2 ^ 31) : x < 0 ∨ nI n ≤ x ∨ ∃ j : Nat, j < n ∧ x = nI j := by
  by_cases h : x < 0
  · exact Or.inl h
  · obtain ⟨j, hj, rfl⟩ := nI_of h
    by_cases h2 : j < n
    · exact Or.inr (Or.inr ⟨j, h2, rfl⟩)
    · exact Or.inr (Or.inl (nI_le (by omega) hj))
theorem pk_le {x y : Int32} {A B : Prop} (a b : Nat) (f : a ≤ b → A) (g : b < a → B) (hx : x = nI a := by rfl) (hy : y = nI b := by rfl) (ha : a < 2 ^ 31 := by omega) (hb : b < 2 ^ 31 := by omega) : (x ≤ y → A) ∧ (¬ x ≤ y → B) := by
  subst hx hy
  rw [nI_leI ha hb]
  exact ⟨f, fun z => g (by omega)⟩
theorem pk_lt {x y : Int32} {A B : Prop} (a b : Nat) (f : a < b → A) (g : b ≤ a → B) (hx : x = nI a := by rfl) (hy : y = nI b := by rfl) (ha : a < 2 ^ 31 := by omega) (hb : b < 2 ^ 31 := by omega) : (x < y → A) ∧ (¬ x < y → B) := by
  subst hx hy
  rw [nI_ltI ha hb]
  exact ⟨f, fun z => g (by omega)⟩
theorem pk_eq {x y : Int32} {A B : Prop} (a b : Nat) (f : a = b → A) (g : a ≠ b → B) (hx : x = nI a := by rfl) (hy : y = nI b := by rfl) (ha : a < 2 ^ 31 := by omega) (hb : b < 2 ^ 31 := by omega) : (x = y → A) ∧ (¬ x = y → B) := by
  subst hx hy
  rw [nI_eq ha hb]
  exact ⟨f, g⟩
theorem pk_in {x : Int32} (n N : Nat) (h : n < N) (hx : x = nI n := by rfl) (hN : N < 2 ^ 31 := by omega) : vp_in x N := by
  subst hx
  exact vp_in_nI h hN
theorem pk_cl {x : Int32} (n : Nat) (hx : x = nI n := by rfl) (h : n < 2 ^ 31 := by omega) : x.toNatClampNeg = n := by
  subst hx
  exact nI_clamp h
theorem pk_loop {σ : Type} (W : Nat → Nat → σ → Prop) (I : Nat → σ → Prop) (e i0 : Nat) (s : σ) (hi : i0 ≤ e) (h0 : I i0 s) (hx : ∀ n s, I e s → W (n + 1) e s)
    (hs : ∀ n i s, i < e → I i s → (∀ s', I (i + 1) s' → W n (i + 1) s') → W (n + 1) i s) : ∃ n, W n i0 s :=
  ⟨e + 1, loop_i W I e hx hs (e + 1) i0 s hi (by omega) h0⟩
theorem pk_least (P : Nat → Prop) (h : ∃ k, P k) : ∃ k, P k ∧ ∀ j, j < k → ¬ P j := by
  obtain ⟨k, hk⟩ := h
  induction k using Nat.strongRecOn with
  | ind k ih =>
    by_cases e : ∃ j, j < k ∧ P j
    · obtain ⟨j, hj, pj⟩ := e
      exact ih j hj pj
    · exact ⟨k, hk, fun j hj pj => e ⟨j, hj, pj⟩⟩
theorem sb_m1 {p : Nat} (h : 0 < p) : nI p + (-1) = nI (p - 1) := by
  obtain ⟨q, rfl⟩ : ∃ q, p = q + 1 := ⟨p - 1, by omega⟩
  exact pk_m1 q
theorem sb_negT {w : Nat} (h : w < 2 ^ 31) : (-nI w).toInt = -(w : Int) := by
  rw [Int32.toInt_neg, nI_toInt h]
  exact Int.bmod_eq_of_le (by omega) (by omega)
theorem sb_nle {a b : Nat} (ha : a < 2 ^ 31) (hb : b < 2 ^ 31) : -nI a ≤ -nI b ↔ b ≤ a := by
  rw [Int32.le_iff_toInt_le, sb_negT ha, sb_negT hb]
  omega
theorem sb_nlt {a b : Nat} (ha : a < 2 ^ 31) (hb : b < 2 ^ 31) : -nI a < -nI b ↔ b < a := by
  rw [Int32.lt_iff_toInt_lt, sb_negT ha, sb_negT hb]
  omega
def bt (x : Int32) (i : Nat) : Bool := x.toBitVec.getLsbD i
theorem b_or (x y : Int32) (i : Nat) : bt (x ||| y) i = (bt x i || bt y i) := by unfold bt; rw [Int32.toBitVec_or, BitVec.getLsbD_or]
theorem b_and (x y : Int32) (i : Nat) : bt (x &&& y) i = (bt x i && bt y i) := by unfold bt; rw [Int32.toBitVec_and, BitVec.getLsbD_and]
theorem b_big {x : Int32} {i : Nat} (h : 32 ≤ i) : bt x i = false := BitVec.getLsbD_of_ge _ _ h
theorem b_0 (i : Nat) : bt 0 i = false := BitVec.getLsbD_zero
theorem b_ext {x y : Int32} (h : ∀ i, i < 32 → bt x i = bt y i) : x = y := Int32.toBitVec_inj.mp (BitVec.eq_of_getLsbD_eq (fun i hi => h i hi))
theorem fx {α V : Type} [Inhabited V] (μ : α → Nat) (F : (α → V) → α → V) : ∃ f : α → V, ∀ a, f a = F (fun b => if μ b < μ a then f b else default) a := by
  refine ⟨(measure μ).wf.fix (fun a r => F (fun b => if h : μ b < μ a then r b h else default) a), fun a => ?_⟩
  rw [WellFounded.fix_eq]
  apply congrArg (fun z => F z a)
  funext b
  by_cases h : μ b < μ a <;> simp [h]
noncomputable def b01 (P : Prop) : Nat := @ite Nat P (Classical.propDecidable P) 1 0
theorem b01_t {P : Prop} (h : P) : b01 P = 1 := by unfold b01; rw [if_pos h]
theorem b01_f {P : Prop} (h : ¬ P) : b01 P = 0 := by unfold b01; rw [if_neg h]
theorem b01_le (P : Prop) : b01 P ≤ 1 := by
  rcases Classical.em P with h | h
  · rw [b01_t h]; omega
  · rw [b01_f h]; omega
theorem b01_mono {P Q : Prop} (h : P → Q) : b01 P ≤ b01 Q := by
  rcases Classical.em P with hp | hp
  · rw [b01_t hp, b01_t (h hp)]; omega
  · rw [b01_f hp]; omega
noncomputable def cn (P : Nat → Prop) : Nat → Nat
  | 0 => 0
  | k + 1 => cn P k + b01 (P k)
theorem cn_mono {P Q : Nat → Prop} : ∀ {N : Nat}, (∀ k, k < N → P k → Q k) → cn P N ≤ cn Q N
  | 0, _ => Nat.le_refl _
  | N + 1, h => by
    have a := cn_mono (P := P) (Q := Q) (N := N) (fun k hk => h k (by omega))
    have b := b01_mono (h N (by omega))
    simp only [cn]; omega
theorem cn_lt {P Q : Nat → Prop} {a : Nat} (hp : ¬ P a) (hq : Q a) : ∀ {N : Nat}, (∀ k, k < N → P k → Q k) → a < N → cn P N < cn Q N
  | 0, _, h => by omega
  | N + 1, h, ha => by
    simp only [cn]
    rcases Nat.lt_or_ge a N with z | z
    · have x := cn_lt hp hq (N := N) (fun k hk => h k (by omega)) z
      have b := b01_mono (h N (by omega))
      omega
    · have e : a = N := by omega
      subst e
      have x := cn_mono (P := P) (Q := Q) (N := a) (fun k hk => h k (by omega))
      rw [b01_t hq, b01_f hp]; omega
theorem cn_le (P : Nat → Prop) : ∀ N, cn P N ≤ N
  | 0 => Nat.le_refl _
  | N + 1 => by have := cn_le P N; have := b01_le (P N); simp only [cn]; omega
theorem cn_eq {P Q : Nat → Prop} {N : Nat} (h : ∀ k, k < N → (P k ↔ Q k)) : cn P N = cn Q N :=
  Nat.le_antisymm (cn_mono fun k hk => (h k hk).mp) (cn_mono fun k hk => (h k hk).mpr)
/-! ===== own rows: arrays of naturals ===== -/
def hp_A (f : Nat → Nat) : Nat → Int32 := fun j => nI (f j)
def hp_u (f : Nat → Nat) (k x : Nat) : Nat → Nat := fun j => if j = k then x else f j
theorem hp_us {f : Nat → Nat} {k x : Nat} : hp_u f k x k = x := if_pos rfl
theorem hp_un {f : Nat → Nat} {k j x : Nat} (h : j ≠ k) : hp_u f k x j = f j := if_neg h
theorem hp_uA (f : Nat → Nat) (k x : Nat) : upd (hp_A f) k (nI x) = hp_A (hp_u f k x) := by
  funext j
  unfold upd hp_A hp_u
  by_cases h : j = k
  · rw [if_pos h, if_pos h]
  · rw [if_neg h, if_neg h]
theorem hp_uA' {a : Nat → Int32} {f : Nat → Nat} {i : Int32} {k x : Nat} {y : Int32} (ha : a = hp_A f) (hi : i.toNatClampNeg = k) (hy : y = nI x) : upd a i.toNatClampNeg y = hp_A (hp_u f k x) := by
  subst ha hi hy
  exact hp_uA _ _ _
theorem hp_A0 : (fun _ => 0 : Nat → Int32) = hp_A (fun _ => 0) := by
  funext _
  exact nI_0.symm
theorem hp_ueq {f : Nat → Nat} {k : Nat} (h : f k = 0) : hp_u f k 0 = f := by
  funext j
  by_cases e : j = k
  · subst e
    rw [hp_us, h]
  · rw [hp_un e]
theorem hp_bit1 : ∀ j, j < 32 → ∀ i, i < 32 → bt ((1 : Int32) <<< (nI j &&& 31)) i = decide (i = j) := by decide +kernel
theorem hp_band (x : Int32) {j : Nat} (hj : j < 32) : (x &&& ((1 : Int32) <<< (nI j &&& 31))) = 0 ↔ ¬ bt x j = true := by
  constructor
  · intro h e
    have := congrArg (fun z => bt z j) h
    simp only [b_and, b_0, hp_bit1 j hj j hj, e] at this
    simp at this
  · intro h
    apply b_ext
    intro i hi
    rw [b_and, b_0, hp_bit1 j hj i hi]
    by_cases e : i = j
    · subst e
      simp [h]
    · simp [e]
theorem hp_bor (x : Int32) {j i : Nat} (hj : j < 32) (hi : i < 32) : bt (x ||| ((1 : Int32) <<< (nI j &&& 31))) i = true ↔ (bt x i = true ∨ i = j) := by
  rw [b_or, hp_bit1 j hj i hi, Bool.or_eq_true, decide_eq_true_eq]
theorem hp_cnT {P : Nat → Prop} {n : Nat} (h : n ≤ cn P n) : ∀ j, j < n → P j := by
  intro j hj
  refine Classical.byContradiction fun hp => ?_
  have a := cn_lt (P := P) (Q := fun _ => True) (a := j) hp trivial (N := n) (fun _ _ _ => trivial) hj
  have b := cn_le (fun _ => True) n
  omega
/-- a numbering pressed into the first n numbers -/
theorem hp_lev (r : Nat → Nat) (n : Nat) : ∃ L : Nat → Nat, (∀ t, t < n → L t < n) ∧ (∀ a b, a < n → r a < r b → L a < L b) := by
  refine ⟨fun t => cn (fun y => r y < r t) n, fun t ht => ?_, fun a b ha h => ?_⟩
  · have x := cn_lt (P := fun y => r y < r t) (Q := fun _ => True) (a := t) (Nat.lt_irrefl _) trivial (N := n) (fun _ _ _ => trivial) ht
    have y := cn_le (fun _ => True) n
    show cn (fun y => r y < r t) n < n
    omega
  · exact cn_lt (P := fun y => r y < r a) (Q := fun y => r y < r b) (a := a) (Nat.lt_irrefl _) h (N := n) (fun k _ hk => Nat.lt_trans hk h) ha
end
section
/-! ===== reach: passes over the edges ===== -/
def hp_Cl (m : Nat) (EU EV : Nat → Nat) (S : Nat → Prop) : Prop := ∀ e, e < m → S (EU e) → S (EV e)
/-- the set at the head of pass k -/
def hp_RO (n m : Nat) (EU EV : Nat → Nat) (v k : Nat) (S : Nat → Prop) : Prop :=
  S v ∧ (∀ j, S j → j < n) ∧ (∀ C : Nat → Prop, hp_Cl m EU EV C → C v → ∀ j, S j → C j) ∧ (hp_Cl m EU EV S ∨ k + 1 ≤ cn S n)
/-- the set within a pass that began with S0 -/
def hp_RI (n m : Nat) (EU EV : Nat → Nat) (v : Nat) (S0 : Nat → Prop) (i : Nat) (S : Nat → Prop) : Prop :=
  (∀ j, S0 j → S j) ∧ (∀ j, S j → j < n) ∧ (∀ C : Nat → Prop, hp_Cl m EU EV C → C v → ∀ j, S j → C j) ∧ (∀ e, e < i → S0 (EU e) → S (EV e))
theorem hp_RO0 {n m : Nat} {EU EV : Nat → Nat} {v : Nat} (hv : v < n) : hp_RO n m EU EV v 0 (fun j => j = v) := by
  refine ⟨rfl, fun j (h : j = v) => by omega, fun C _ hC j (h : j = v) => by rw [h]; exact hC, Or.inr ?_⟩
  have := cn_lt (P := fun _ => False) (Q := fun j => j = v) (a := v) id rfl (N := n) (fun _ _ h => h.elim) hv
  omega
theorem hp_RI0 {n m : Nat} {EU EV : Nat → Nat} {v k : Nat} {S : Nat → Prop} (h : hp_RO n m EU EV v k S) : hp_RI n m EU EV v S 0 S :=
  ⟨fun _ h => h, h.2.1, h.2.2.1, fun e he => absurd he (Nat.not_lt_zero e)⟩
theorem hp_RIs {n m : Nat} {EU EV : Nat → Nat} {v : Nat} {S0 S : Nat → Prop} {i : Nat} (h : hp_RI n m EU EV v S0 i S) (hi : i < m) (hn : EV i < n) (hs : S (EU i)) : hp_RI n m EU EV v S0 (i + 1) (fun j => S j ∨ j = EV i) := by
  obtain ⟨h1, h2, h3, h4⟩ := h
  refine ⟨fun j hj => Or.inl (h1 j hj), fun j hj => ?_, fun C hC hv j hj => ?_, fun e he hS => ?_⟩
  · rcases hj with hj | hj
    · exact h2 j hj
    · rw [hj]; exact hn
  · rcases hj with hj | hj
    · exact h3 C hC hv j hj
    · rw [hj]; exact hC i hi (h3 C hC hv _ hs)
  · rcases Nat.lt_or_ge e i with z | z
    · exact Or.inl (h4 e z hS)
    · have e1 : e = i := by omega
      exact Or.inr (by rw [e1])
theorem hp_RIn {n m : Nat} {EU EV : Nat → Nat} {v : Nat} {S0 S : Nat → Prop} {i : Nat} (h : hp_RI n m EU EV v S0 i S) (hs : ¬ S (EU i)) : hp_RI n m EU EV v S0 (i + 1) S := by
  obtain ⟨h1, h2, h3, h4⟩ := h
  refine ⟨h1, h2, h3, fun e he hS => ?_⟩
  rcases Nat.lt_or_ge e i with z | z
  · exact h4 e z hS
  · have e1 : e = i := by omega
    rw [e1] at hS
    exact absurd (h1 _ hS) hs
theorem hp_ROs {n m : Nat} {EU EV : Nat → Nat} {v k : Nat} {S0 S : Nat → Prop} (h : hp_RO n m EU EV v k S0) (g : hp_RI n m EU EV v S0 m S) : hp_RO n m EU EV v (k + 1) S := by
  obtain ⟨a1, a2, a3, a4⟩ := h
  obtain ⟨b1, b2, b3, b4⟩ := g
  refine ⟨b1 v a1, b2, b3, ?_⟩
  by_cases hz : ∀ j, S j → S0 j
  · exact Or.inl fun e he hS => b4 e he (hz _ hS)
  · rcases a4 with a4 | a4
    · exact absurd (fun j hj => b3 S0 a4 a1 j hj) hz
    · refine Or.inr ?_
      have e' : ∃ j, S j ∧ ¬ S0 j := Classical.byContradiction fun q => hz fun j hj => Classical.byContradiction fun z => q ⟨j, hj, z⟩
      obtain ⟨j, hj, hn⟩ := e'
      have := cn_lt (P := S0) (Q := S) (a := j) hn hj (N := n) (fun k _ hk => b1 k hk) (b2 j hj)
      omega
/-- what both sides end with -/
def hp_RR (n m : Nat) (EU EV : Nat → Nat) (v : Nat) (S : Nat → Prop) : Prop :=
  S v ∧ (∀ j, S j → j < n) ∧ (∀ C : Nat → Prop, hp_Cl m EU EV C → C v → ∀ j, S j → C j) ∧ hp_Cl m EU EV S
theorem hp_ROe {n m : Nat} {EU EV : Nat → Nat} {v : Nat} {S : Nat → Prop} (h : hp_RO n m EU EV v n S) : hp_RR n m EU EV v S := by
  obtain ⟨a1, a2, a3, a4⟩ := h
  refine ⟨a1, a2, a3, ?_⟩
  rcases a4 with a4 | a4
  · exact a4
  · have := cn_le S n
    omega
theorem hp_RRu {n m : Nat} {EU EV : Nat → Nat} {v : Nat} {S T : Nat → Prop} (h : hp_RR n m EU EV v S) (g : hp_RR n m EU EV v T) (j : Nat) : S j ↔ T j :=
  ⟨fun z => h.2.2.1 T g.2.2.2 g.1 j z, fun z => g.2.2.1 S h.2.2.2 h.1 j z⟩
/-! ===== no cycle: a numbering that grows along the edges ===== -/
def hp_Top (m : Nat) (EU EV : Nat → Nat) : Prop := ∃ r : Nat → Nat, ∀ e, e < m → r (EU e) < r (EV e)
theorem hp_topA {n m : Nat} {EU EV : Nat → Nat} {u v : Nat} {S : Nat → Prop} (h : hp_Top m EU EV) (g : hp_RR n m EU EV v S) (hu : ¬ S u) : hp_Top (m + 1) (hp_u EU m u) (hp_u EV m v) := by
  obtain ⟨r, hr⟩ := h
  refine ⟨fun x => r x + b01 (S x) * (r u + 1), fun e he => ?_⟩
  show r _ + b01 _ * (r u + 1) < r _ + b01 _ * (r u + 1)
  rcases Nat.lt_or_ge e m with z | z
  · rw [hp_un (by omega), hp_un (by omega)]
    have q := hr e z
    by_cases s : S (EU e)
    · rw [b01_t s, b01_t (g.2.2.2 e z s)]
      omega
    · rw [b01_f s]
      have : 0 * (r u + 1) = 0 := Nat.zero_mul _
      have := Nat.zero_le (b01 (S (EV e)) * (r u + 1))
      omega
  · have e1 : e = m := by omega
    subst e1
    rw [hp_us, hp_us, b01_f hu, b01_t g.1]
    omega
theorem hp_topL {n m : Nat} {EU EV : Nat → Nat} (h : hp_Top m EU EV) (hn : ∀ e, e < m → EU e < n) : ∃ L : Nat → Nat, (∀ t, t < n → L t < n) ∧ (∀ e, e < m → L (EU e) < L (EV e)) := by
  obtain ⟨r, hr⟩ := h
  obtain ⟨L, h1, h2⟩ := hp_lev r n
  exact ⟨L, h1, fun e he => h2 _ _ (hn e he) (hr e he)⟩
end
section
/-! ===== the greatest of some values ===== -/
def hp_mx (K : Nat → Nat) (t : Nat) (g : Nat → Nat) (b : Nat) : Nat → Nat
  | 0 => b
  | e + 1 => if K e = t then (if hp_mx K t g b e < g e then g e else hp_mx K t g b e) else hp_mx K t g b e
theorem hp_mx1 {K : Nat → Nat} {t : Nat} {g : Nat → Nat} {b e : Nat} (h : K e = t) (h2 : hp_mx K t g b e < g e) : hp_mx K t g b (e + 1) = g e := by
  rw [hp_mx, if_pos h, if_pos h2]
theorem hp_mx2 {K : Nat → Nat} {t : Nat} {g : Nat → Nat} {b e : Nat} (h : K e = t) (h2 : ¬ hp_mx K t g b e < g e) : hp_mx K t g b (e + 1) = hp_mx K t g b e := by
  rw [hp_mx, if_pos h, if_neg h2]
theorem hp_mx3 {K : Nat → Nat} {t : Nat} {g : Nat → Nat} {b e : Nat} (h : ¬ K e = t) : hp_mx K t g b (e + 1) = hp_mx K t g b e := by
  rw [hp_mx, if_neg h]
theorem hp_mxB {K : Nat → Nat} {t : Nat} {g : Nat → Nat} {b : Nat} : ∀ m, b ≤ hp_mx K t g b m
  | 0 => Nat.le_refl _
  | e + 1 => by
    have ih := hp_mxB (K := K) (t := t) (g := g) (b := b) e
    by_cases h : K e = t
    · by_cases h2 : hp_mx K t g b e < g e
      · rw [hp_mx1 h h2]; omega
      · rw [hp_mx2 h h2]; exact ih
    · rw [hp_mx3 h]; exact ih
theorem hp_mxG {K : Nat → Nat} {t : Nat} {g : Nat → Nat} {b : Nat} : ∀ m e, e < m → K e = t → g e ≤ hp_mx K t g b m
  | 0, e, he, _ => by omega
  | m + 1, e, he, hK => by
    rcases Nat.lt_or_ge e m with z | z
    · have ih := hp_mxG (K := K) (t := t) (g := g) (b := b) m e z hK
      by_cases h : K m = t
      · by_cases h2 : hp_mx K t g b m < g m
        · rw [hp_mx1 h h2]; omega
        · rw [hp_mx2 h h2]; exact ih
      · rw [hp_mx3 h]; exact ih
    · have e1 : e = m := by omega
      subst e1
      by_cases h2 : hp_mx K t g b e < g e
      · rw [hp_mx1 hK h2]; omega
      · rw [hp_mx2 hK h2]; omega
theorem hp_mxL {K : Nat → Nat} {t : Nat} {g : Nat → Nat} {b c : Nat} (hb : b ≤ c) : ∀ m, (∀ e, e < m → K e = t → g e ≤ c) → hp_mx K t g b m ≤ c
  | 0, _ => hb
  | m + 1, hg => by
    have ih := hp_mxL (K := K) (t := t) (g := g) hb m (fun e he => hg e (by omega))
    by_cases h : K m = t
    · by_cases h2 : hp_mx K t g b m < g m
      · rw [hp_mx1 h h2]; exact hg m (by omega) h
      · rw [hp_mx2 h h2]; exact ih
    · rw [hp_mx3 h]; exact ih
theorem hp_mxA {K : Nat → Nat} {t : Nat} {g : Nat → Nat} {b : Nat} : ∀ m, hp_mx K t g b m = b ∨ ∃ e, e < m ∧ K e = t ∧ hp_mx K t g b m = g e
  | 0 => Or.inl rfl
  | m + 1 => by
    have ih := hp_mxA (K := K) (t := t) (g := g) (b := b) m
    have up : (hp_mx K t g b m = b ∨ ∃ e, e < m ∧ K e = t ∧ hp_mx K t g b m = g e) → (hp_mx K t g b m = b ∨ ∃ e, e < m + 1 ∧ K e = t ∧ hp_mx K t g b m = g e) := by
      intro q
      rcases q with q | ⟨e, h1, h2, h3⟩
      · exact Or.inl q
      · exact Or.inr ⟨e, by omega, h2, h3⟩
    by_cases h : K m = t
    · by_cases h2 : hp_mx K t g b m < g m
      · rw [hp_mx1 h h2]; exact Or.inr ⟨m, by omega, h, rfl⟩
      · rw [hp_mx2 h h2]; exact up ih
    · rw [hp_mx3 h]; exact up ih
theorem hp_mxM {K : Nat → Nat} {t : Nat} {g g' : Nat → Nat} {b b' : Nat} (m : Nat) (hb : b ≤ b') (hg : ∀ e, e < m → K e = t → g e ≤ g' e) : hp_mx K t g b m ≤ hp_mx K t g' b' m :=
  hp_mxL (Nat.le_trans hb (hp_mxB m)) m (fun e he hK => Nat.le_trans (hg e he hK) (hp_mxG m e he hK))
theorem hp_mxC {K : Nat → Nat} {t : Nat} {g g' : Nat → Nat} {b b' : Nat} (m : Nat) (hb : b = b') (hg : ∀ e, e < m → K e = t → g e = g' e) : hp_mx K t g b m = hp_mx K t g' b' m :=
  Nat.le_antisymm (hp_mxM m (by omega) fun e he hK => by rw [hg e he hK]; exact Nat.le_refl _) (hp_mxM m (by omega) fun e he hK => by rw [hg e he hK]; exact Nat.le_refl _)
/-- a base other than 0 -/
theorem hp_mxZ {K : Nat → Nat} {t : Nat} {g : Nat → Nat} {b : Nat} (m : Nat) : hp_mx K t g b m = if hp_mx K t g 0 m < b then b else hp_mx K t g 0 m := by
  have h1 := hp_mxM (K := K) (t := t) (g := g) (g' := g) (b := 0) (b' := b) m (Nat.zero_le _) (fun _ _ _ => Nat.le_refl _)
  have h2 := hp_mxB (K := K) (t := t) (g := g) (b := b) m
  have h3 : hp_mx K t g b m ≤ if hp_mx K t g 0 m < b then b else hp_mx K t g 0 m := by
    refine hp_mxL ?_ m (fun e he hK => ?_)
    · split <;> omega
    · have := hp_mxG (K := K) (t := t) (g := g) (b := 0) m e he hK
      split <;> omega
  by_cases c : hp_mx K t g 0 m < b
  · rw [if_pos c] at h3 ⊢
    omega
  · rw [if_neg c] at h3 ⊢
    omega
/-! ===== ranks ===== -/
def hp_tc (W : Nat → Nat) (t : Nat) : Nat → Nat
  | 0 => 0
  | p + 1 => hp_tc W t p + W (t * 4 + p)
theorem hp_tcB {W : Nat → Nat} {t : Nat} : ∀ p, (∀ q, q < p → W (t * 4 + q) ≤ 100) → hp_tc W t p ≤ 100 * p
  | 0, _ => Nat.le_refl _
  | p + 1, h => by
    have := hp_tcB (W := W) (t := t) p (fun q hq => h q (by omega))
    have := h p (by omega)
    rw [hp_tc]
    omega
theorem hp_tcP {W : Nat → Nat} {t p : Nat} (h : 0 < W (t * 4 + 0)) (hp : 0 < p) : 0 < hp_tc W t p := by
  obtain ⟨q, rfl⟩ : ∃ q, p = q + 1 := ⟨p - 1, by omega⟩
  clear hp
  induction q with
  | zero => show 0 < 0 + W (t * 4 + 0); omega
  | succ q ih => rw [hp_tc]; omega
/-- one reckoning of t's rank out of the ranks r -/
def hp_F (P m : Nat) (W EU EV EC : Nat → Nat) (r : Nat → Nat) (t : Nat) : Nat := hp_tc W t P + hp_mx EU t (fun e => P * EC e + r (EV e)) 0 m
/-- what the graph holds -/
def hp_G (P n m : Nat) (W EU EV EC : Nat → Nat) : Prop :=
  1 ≤ P ∧ P ≤ 4 ∧ n ≤ 16 ∧ m ≤ 32 ∧ (∀ t p, t < n → p < P → 1 ≤ W (t * 4 + p) ∧ W (t * 4 + p) ≤ 100) ∧ (∀ e, e < m → EU e < n ∧ EV e < n ∧ EC e ≤ 100) ∧ hp_Top m EU EV
theorem hp_Pm {P c : Nat} (hP : P ≤ 4) (hc : c ≤ 100) : P * c ≤ 400 := Nat.le_trans (Nat.mul_le_mul hP hc) (by decide)
/-- the ranks: there are some, they are bounded, and levels L go with them -/
def hp_Rk (P n m : Nat) (W EU EV EC : Nat → Nat) (L R : Nat → Nat) : Prop :=
  (∀ t, t < n → L t < n) ∧ (∀ e, e < m → L (EU e) < L (EV e)) ∧ (∀ t, t < n → R t = hp_F P m W EU EV EC R t) ∧ (∀ t, t < n → R t ≤ 12800)
theorem hp_rkE {P n m : Nat} {W EU EV EC : Nat → Nat} (G : hp_G P n m W EU EV EC) : ∃ L R, hp_Rk P n m W EU EV EC L R := by
  obtain ⟨hP1, hP, hn, hm, hW, hE, hT⟩ := G
  obtain ⟨L, hL1, hL2⟩ := hp_topL hT (fun e he => (hE e he).1)
  obtain ⟨R, hR⟩ := fx (V := Nat) (fun t => n - L t) (hp_F P m W EU EV EC)
  have hF : ∀ t, t < n → R t = hp_F P m W EU EV EC R t := by
    intro t ht
    rw [hR t]
    unfold hp_F
    refine congrArg (fun z => hp_tc W t P + z) (hp_mxC m rfl fun e he hK => ?_)
    have h1 := hL2 e he
    rw [hK] at h1
    have h2 := hL1 _ (hE e he).2.1
    show P * EC e + (if n - L (EV e) < n - L t then R (EV e) else default) = P * EC e + R (EV e)
    rw [if_pos (by omega)]
  refine ⟨L, R, hL1, hL2, hF, ?_⟩
  have key : ∀ k t, t < n → n - L t ≤ k → R t ≤ 800 * k := by
    intro k
    induction k with
    | zero => intro t ht h; have := hL1 t ht; omega
    | succ k ih =>
      intro t ht h
      rw [hF t ht]
      unfold hp_F
      have h1 := hp_tcB (W := W) (t := t) P (fun q hq => (hW t q ht hq).2)
      have h2 : hp_mx EU t (fun e => P * EC e + R (EV e)) 0 m ≤ 400 + 800 * k := by
        refine hp_mxL (by omega) m (fun e he hK => ?_)
        have a := hL2 e he
        rw [hK] at a
        have b := ih (EV e) (hE e he).2.1 (by omega)
        have c := hp_Pm hP (hE e he).2.2
        show P * EC e + R (EV e) ≤ _
        omega
      omega
  intro t ht
  have := key n t ht (by omega)
  omega
/-- the class: raising along the edges; head of pass k -/
def hp_XK (P n m : Nat) (W EU EV EC : Nat → Nat) (L R r0 : Nat → Nat) (k : Nat) (r : Nat → Nat) : Prop :=
  (∀ j, j < n → hp_tc W j P ≤ r j ∧ r j ≤ R j) ∧ (∀ j, j < n → n - L j ≤ k → r j = R j) ∧ (∀ j, n ≤ j → r j = r0 j)
def hp_XE (P n m : Nat) (W EU EV EC : Nat → Nat) (L R r0 : Nat → Nat) (k i : Nat) (r : Nat → Nat) : Prop :=
  hp_XK P n m W EU EV EC L R r0 k r ∧ (∀ e, e < i → n - L (EU e) ≤ k + 1 → hp_tc W (EU e) P + (P * EC e + R (EV e)) ≤ r (EU e))
theorem hp_XK0 {P n m : Nat} {W EU EV EC L R r0 r : Nat → Nat} (H : hp_Rk P n m W EU EV EC L R) (h : ∀ j, j < n → r j = hp_tc W j P) (h2 : ∀ j, n ≤ j → r j = r0 j) : hp_XK P n m W EU EV EC L R r0 0 r := by
  obtain ⟨hL1, hL2, hF, -⟩ := H
  refine ⟨fun j hj => ⟨?_, ?_⟩, fun j hj hk => ?_, h2⟩
  · rw [h j hj]; exact Nat.le_refl _
  · rw [h j hj, hF j hj]; exact Nat.le_add_right _ _
  · have := hL1 j hj
    omega
theorem hp_XEs {P n m : Nat} {W EU EV EC L R r0 r : Nat → Nat} {k i : Nat} (H : hp_Rk P n m W EU EV EC L R) (hu : EU i < n) (hv : EV i < n) (hi : i < m) (h : hp_XE P n m W EU EV EC L R r0 k i r) :
    (hp_tc W (EU i) P + P * EC i + r (EV i) ≤ R (EU i)) ∧
    (r (EU i) < hp_tc W (EU i) P + P * EC i + r (EV i) → hp_XE P n m W EU EV EC L R r0 k (i + 1) (hp_u r (EU i) (hp_tc W (EU i) P + P * EC i + r (EV i)))) ∧
    (¬ r (EU i) < hp_tc W (EU i) P + P * EC i + r (EV i) → hp_XE P n m W EU EV EC L R r0 k (i + 1) r) := by
  obtain ⟨hL1, hL2, hF, -⟩ := H
  obtain ⟨⟨h1, h2, h3⟩, h4⟩ := h
  have hR : hp_tc W (EU i) P + (P * EC i + R (EV i)) ≤ R (EU i) := by
    rw [hF _ hu]
    unfold hp_F
    exact Nat.add_le_add_left (hp_mxG (K := EU) (t := EU i) (g := fun e => P * EC e + R (EV e)) m i hi rfl) _
  have hv1 := (h1 _ hv).2
  have hb : hp_tc W (EU i) P + P * EC i + r (EV i) ≤ R (EU i) := by omega
  have hex : n - L (EU i) ≤ k + 1 → r (EV i) = R (EV i) := fun q => h2 _ hv (by have := hL2 i hi; omega)
  refine ⟨hb, fun hlt => ⟨⟨fun j hj => ?_, fun j hj hk => ?_, fun j hj => ?_⟩, fun e he hk => ?_⟩, fun hlt => ⟨⟨h1, h2, h3⟩, fun e he hk => ?_⟩⟩
  · by_cases e : j = EU i
    · subst e; rw [hp_us]; have := (h1 _ hu).1; exact ⟨by omega, hb⟩
    · rw [hp_un e]; exact h1 j hj
  · by_cases e : j = EU i
    · subst e
      have := h2 _ hu hk
      omega
    · rw [hp_un e]; exact h2 j hj hk
  · rw [hp_un (by omega)]; exact h3 j hj
  · have old : e < i → hp_tc W (EU e) P + (P * EC e + R (EV e)) ≤ r (EU e) := fun z => h4 e z hk
    by_cases q : EU e = EU i
    · rw [q, hp_us]
      rcases Nat.lt_or_ge e i with z | z
      · have := old z
        rw [q] at this
        omega
      · have e1 : e = i := by omega
        subst e1
        have := hex hk
        omega
    · rw [hp_un q]
      rcases Nat.lt_or_ge e i with z | z
      · exact old z
      · have e1 : e = i := by omega
        subst e1
        exact absurd rfl q
  · rcases Nat.lt_or_ge e i with z | z
    · exact h4 e z hk
    · have e1 : e = i := by omega
      subst e1
      have := hex hk
      omega
theorem hp_XEe {P n m : Nat} {W EU EV EC L R r0 r : Nat → Nat} {k : Nat} (H : hp_Rk P n m W EU EV EC L R) (h : hp_XE P n m W EU EV EC L R r0 k m r) : hp_XK P n m W EU EV EC L R r0 (k + 1) r := by
  obtain ⟨hL1, hL2, hF, -⟩ := H
  obtain ⟨⟨h1, h2, h3⟩, h4⟩ := h
  refine ⟨h1, fun j hj hk => ?_, h3⟩
  refine Nat.le_antisymm (h1 j hj).2 ?_
  have e := hF j hj
  unfold hp_F at e
  rcases hp_mxA (K := EU) (t := j) (g := fun e => P * EC e + R (EV e)) (b := 0) m with q | ⟨i, hi, hK, q⟩
  · have := (h1 j hj).1
    omega
  · have := h4 i hi (by rw [hK]; exact hk)
    rw [hK] at this
    rw [e, q]
    exact this
/-- the reference: passes of reckoning; head of pass k, then within it -/
def hp_YK (n : Nat) (L R r0 : Nat → Nat) (k : Nat) (r : Nat → Nat) : Prop :=
  (∀ j, j < n → r j ≤ R j) ∧ (∀ j, j < n → n - L j ≤ k → r j = R j) ∧ (∀ j, n ≤ j → r j = r0 j)
def hp_YE (n : Nat) (L R r0 : Nat → Nat) (k i : Nat) (r : Nat → Nat) : Prop :=
  hp_YK n L R r0 k r ∧ (∀ j, j < i → n - L j ≤ k + 1 → r j = R j)
theorem hp_YK0 {P n m : Nat} {W EU EV EC L R r0 r : Nat → Nat} (H : hp_Rk P n m W EU EV EC L R) (h : ∀ j, j < n → r j = 0) (h2 : ∀ j, n ≤ j → r j = r0 j) : hp_YK n L R r0 0 r :=
  ⟨fun j hj => by rw [h j hj]; exact Nat.zero_le _, fun j hj hk => by have := H.1 j hj; omega, h2⟩
theorem hp_Fle {P n m : Nat} {W EU EV EC L R r : Nat → Nat} {t : Nat} (H : hp_Rk P n m W EU EV EC L R) (hE : ∀ e, e < m → EV e < n) (ht : t < n) (h : ∀ j, j < n → r j ≤ R j) : hp_F P m W EU EV EC r t ≤ R t := by
  rw [H.2.2.1 t ht]
  unfold hp_F
  refine Nat.add_le_add_left (hp_mxM m (Nat.le_refl _) fun e he _ => ?_) _
  exact Nat.add_le_add_left (h _ (hE e he)) _
theorem hp_YEs {P n m : Nat} {W EU EV EC L R r0 r : Nat → Nat} {k i : Nat} (H : hp_Rk P n m W EU EV EC L R) (hE : ∀ e, e < m → EV e < n) (hi : i < n) (h : hp_YE n L R r0 k i r) :
    hp_YE n L R r0 k (i + 1) (hp_u r i (hp_F P m W EU EV EC r i)) := by
  obtain ⟨⟨h1, h2, h3⟩, h4⟩ := h
  have hle := hp_Fle (W := W) (EC := EC) H hE hi h1
  have heq : n - L i ≤ k + 1 → hp_F P m W EU EV EC r i = R i := by
    intro q
    rw [H.2.2.1 i hi]
    unfold hp_F
    refine congrArg (fun z => hp_tc W i P + z) (hp_mxC m rfl fun e he hK => ?_)
    have a := H.2.1 e he
    rw [hK] at a
    show P * EC e + r (EV e) = P * EC e + R (EV e)
    rw [h2 _ (hE e he) (by omega)]
  refine ⟨⟨fun j hj => ?_, fun j hj hk => ?_, fun j hj => ?_⟩, fun j hj hk => ?_⟩
  · by_cases e : j = i
    · subst e; rw [hp_us]; exact hle
    · rw [hp_un e]; exact h1 j hj
  · by_cases e : j = i
    · subst e; rw [hp_us]; exact heq (by omega)
    · rw [hp_un e]; exact h2 j hj hk
  · rw [hp_un (by omega)]; exact h3 j hj
  · by_cases e : j = i
    · subst e; rw [hp_us]; exact heq hk
    · rw [hp_un e]; exact h4 j (by omega) hk
theorem hp_YEe {n : Nat} {L R r0 r : Nat → Nat} {k : Nat} (h : hp_YE n L R r0 k n r) : hp_YK n L R r0 (k + 1) r :=
  ⟨h.1.1, fun j hj hk => h.2 j hj hk, h.1.2.2⟩
/-- both end with the same array -/
theorem hp_rkU {P n m : Nat} {W EU EV EC L R r0 r r' : Nat → Nat} (h : hp_XK P n m W EU EV EC L R r0 n r) (g : hp_YK n L R r0 n r') : r' = r := by
  funext j
  rcases Nat.lt_or_ge j n with z | z
  · rw [h.2.1 j z (by omega), g.2.1 j z (by omega)]
  · rw [h.2.2 j z, g.2.2 j z]
/-- a task's rank is above its followers' -/
theorem hp_rkD {P n m : Nat} {W EU EV EC L R : Nat → Nat} (G : hp_G P n m W EU EV EC) (H : hp_Rk P n m W EU EV EC L R) {e : Nat} (he : e < m) : R (EV e) < R (EU e) := by
  obtain ⟨hP1, hP, hn, hm, hW, hE, hT⟩ := G
  rw [H.2.2.1 _ (hE e he).1]
  unfold hp_F
  have a := hp_mxG (K := EU) (t := EU e) (g := fun e => P * EC e + R (EV e)) (b := 0) m e he rfl
  have b := hp_tcP (W := W) (t := EU e) (p := P) (by have := hW (EU e) 0 (hE e he).1 (by omega); omega) (by omega)
  have c : P * EC e + R (EV e) ≤ hp_mx EU (EU e) (fun e => P * EC e + R (EV e)) 0 m := a
  omega
end
section
/-! ===== the order of the tasks: by G, then by number ===== -/
def hp_bf (G : Nat → Nat) (x y : Nat) : Prop := G x < G y ∨ (G x = G y ∧ x < y)
def hp_So (n : Nat) (G a : Nat → Nat) : Prop :=
  (∀ i, i < n → a i < n) ∧ (∀ x, x < n → ∃ i, i < n ∧ a i = x) ∧ (∀ i j, i < j → j < n → hp_bf G (a i) (a j))
theorem hp_bfN {G : Nat → Nat} {x y : Nat} (h : hp_bf G x y) (g : hp_bf G y x) : False := by
  unfold hp_bf at h g
  omega
theorem hp_soI {n : Nat} {G a : Nat → Nat} (h : hp_So n G a) {i j : Nat} (hi : i < n) (hj : j < n) (e : a i = a j) : i = j := by
  rcases Nat.lt_trichotomy i j with z | z | z
  · have := h.2.2 i j z hj
    rw [e] at this
    unfold hp_bf at this
    omega
  · exact z
  · have := h.2.2 j i z hi
    rw [e] at this
    unfold hp_bf at this
    omega
theorem hp_so0 (G a : Nat → Nat) : hp_So 0 G a := ⟨fun i h => by omega, fun i h => by omega, fun i j _ h => by omega⟩
/-- while task t moves down: place q, the list l, the list l0 at its beginning -/
def hp_In (G l0 : Nat → Nat) (t q : Nat) (l : Nat → Nat) : Prop :=
  q ≤ t ∧ (∀ j, j < q → l j = l0 j) ∧ (∀ j, q < j → j ≤ t → l j = l0 (j - 1)) ∧ (∀ j, q ≤ j → j < t → G t < G (l0 j)) ∧ (∀ j, t < j → l j = l0 j)
theorem hp_In0 (G l0 : Nat → Nat) (t : Nat) : hp_In G l0 t t l0 :=
  ⟨Nat.le_refl _, fun _ _ => rfl, fun j h1 h2 => by omega, fun j h1 h2 => by omega, fun _ _ => rfl⟩
theorem hp_Ins {G l0 l : Nat → Nat} {t q : Nat} (h : hp_In G l0 t (q + 1) l) (hg : G t < G (l q)) : hp_In G l0 t q (hp_u l (q + 1) (l q)) := by
  obtain ⟨h1, h2, h3, h4, h5⟩ := h
  refine ⟨by omega, fun j hj => ?_, fun j hj hjt => ?_, fun j hj hjt => ?_, fun j hj => ?_⟩
  · rw [hp_un (by omega)]; exact h2 j (by omega)
  · by_cases e : j = q + 1
    · subst e
      rw [hp_us, h2 q (by omega), Nat.add_sub_cancel]
    · rw [hp_un e]; exact h3 j (by omega) hjt
  · by_cases e : j = q
    · subst e
      rw [← h2 j (by omega)]; exact hg
    · exact h4 j (by omega) hjt
  · rw [hp_un (by omega)]; exact h5 j hj
theorem hp_Ine {G l0 l : Nat → Nat} {t q : Nat} (S : hp_So t G l0) (h : hp_In G l0 t q l) (hg : q = 0 ∨ ¬ G t < G (l (q - 1))) :
    hp_So (t + 1) G (hp_u l q t) ∧ ∀ j, t + 1 ≤ j → hp_u l q t j = l0 j := by
  obtain ⟨h1, h2, h3, h4, h5⟩ := h
  obtain ⟨s1, s2, s3⟩ := S
  have low : ∀ i, i < q → G (l0 i) ≤ G t := by
    intro i hi
    rcases hg with hg | hg
    · omega
    · rw [h2 (q - 1) (by omega)] at hg
      by_cases e : i = q - 1
      · rw [e]; omega
      · have := s3 i (q - 1) (by omega) (by omega)
        unfold hp_bf at this
        omega
  have vlo : ∀ i, i < q → hp_u l q t i = l0 i := fun i hi => by rw [hp_un (by omega)]; exact h2 i hi
  have vhi : ∀ i, q < i → i ≤ t → hp_u l q t i = l0 (i - 1) := fun i hi ht => by rw [hp_un (by omega)]; exact h3 i hi ht
  refine ⟨⟨fun i hi => ?_, fun x hx => ?_, fun i j hij hj => ?_⟩, fun j hj => ?_⟩
  · rcases Nat.lt_trichotomy i q with z | z | z
    · rw [vlo i z]; have := s1 i (by omega); omega
    · subst z; rw [hp_us]; omega
    · rw [vhi i z (by omega)]; have := s1 (i - 1) (by omega); omega
  · by_cases e : x = t
    · subst e; exact ⟨q, by omega, hp_us⟩
    · obtain ⟨i, hi, ei⟩ := s2 x (by omega)
      rcases Nat.lt_or_ge i q with z | z
      · exact ⟨i, by omega, by rw [vlo i z]; exact ei⟩
      · exact ⟨i + 1, by omega, by rw [vhi (i + 1) (by omega) (by omega)]; exact ei⟩
  · rcases Nat.lt_trichotomy j q with z | z | z
    · rw [vlo i (by omega), vlo j z]; exact s3 i j hij (by omega)
    · subst z
      rw [vlo i hij, hp_us]
      have a := low i hij
      have b := s1 i (by omega)
      unfold hp_bf
      omega
    · rw [vhi j z (by omega)]
      rcases Nat.lt_trichotomy i q with y | y | y
      · rw [vlo i y]; exact s3 i (j - 1) (by omega) (by omega)
      · subst y
        rw [hp_us]
        exact Or.inl (h4 (j - 1) (by omega) (by omega))
      · rw [vhi i y (by omega)]; exact s3 (i - 1) (j - 1) (by omega) (by omega)
  · rw [hp_un (by omega)]; exact h5 j (by omega)
/-! ===== the reference's choice of the next ===== -/
/-- after looking at all below t: nothing yet, or b -/
def hp_Sc (G : Nat → Nat) (U : Nat → Prop) (t : Nat) : Option Nat → Prop
  | none => ∀ x, x < t → U x
  | some b => b < t ∧ ¬ U b ∧ ∀ x, x < t → ¬ U x → x = b ∨ hp_bf G b x
theorem hp_Sc0 (G : Nat → Nat) (U : Nat → Prop) : hp_Sc G U 0 none := fun x h => by omega
theorem hp_ScU {G : Nat → Nat} {U : Nat → Prop} {t : Nat} {o : Option Nat} (h : hp_Sc G U t o) (hu : U t) : hp_Sc G U (t + 1) o := by
  cases o with
  | none => exact fun x hx => if e : x = t then by rw [e]; exact hu else h x (by omega)
  | some b =>
    refine ⟨by have := h.1; omega, h.2.1, fun x hx hn => ?_⟩
    by_cases e : x = t
    · rw [e] at hn; exact absurd hu hn
    · exact h.2.2 x (by omega) hn
theorem hp_ScN {G : Nat → Nat} {U : Nat → Prop} {t : Nat} (h : hp_Sc G U t none) (hu : ¬ U t) : hp_Sc G U (t + 1) (some t) := by
  refine ⟨by omega, hu, fun x hx hn => ?_⟩
  by_cases e : x = t
  · exact Or.inl e
  · exact absurd (h x (by omega)) hn
theorem hp_ScB {G : Nat → Nat} {U : Nat → Prop} {t b : Nat} (h : hp_Sc G U t (some b)) (hu : ¬ U t) (hg : G t < G b) : hp_Sc G U (t + 1) (some t) := by
  refine ⟨by omega, hu, fun x hx hn => ?_⟩
  by_cases e : x = t
  · exact Or.inl e
  · refine Or.inr (Or.inl ?_)
    rcases h.2.2 x (by omega) hn with q | q
    · rw [q]; exact hg
    · unfold hp_bf at q; omega
theorem hp_ScK {G : Nat → Nat} {U : Nat → Prop} {t b : Nat} (h : hp_Sc G U t (some b)) (hg : ¬ G t < G b) : hp_Sc G U (t + 1) (some b) := by
  obtain ⟨h1, h2, h3⟩ := h
  refine ⟨by omega, h2, fun x hx hn => ?_⟩
  by_cases e : x = t
  · refine Or.inr ?_
    subst e
    unfold hp_bf
    omega
  · exact h3 x (by omega) hn
/-- the next is the sorted list's next -/
theorem hp_ScE {n : Nat} {G a : Nat → Nat} {U : Nat → Prop} {i : Nat} {o : Option Nat} (S : hp_So n G a) (hi : i < n) (hU : ∀ x, x < n → (U x ↔ ∃ j, j < i ∧ a j = x)) (h : hp_Sc G U n o) : o = some (a i) := by
  have hai := S.1 i hi
  have hnu : ¬ U (a i) := by
    intro q
    obtain ⟨j, hj, e⟩ := (hU _ hai).mp q
    have := hp_soI S (by omega) hi e
    omega
  cases o with
  | none => exact absurd (h _ hai) hnu
  | some b =>
    obtain ⟨h1, h2, h3⟩ := h
    obtain ⟨j, hj, e⟩ := S.2.1 b h1
    rcases Nat.lt_trichotomy j i with z | z | z
    · exact absurd ((hU b h1).mpr ⟨j, z, e⟩) h2
    · rw [← e, z]
    · exfalso
      have q := S.2.2 i j z hj
      rw [e] at q
      rcases h3 _ hai hnu with w | w
      · rw [w] at q; unfold hp_bf at q; omega
      · exact hp_bfN q w
/-- head of step i of the choice -/
def hp_Se (n : Nat) (a o0 : Nat → Nat) (i : Nat) (us o : Nat → Nat) : Prop :=
  (∀ j, j < i → o j = a j) ∧ (∀ j, i ≤ j → o j = o0 j) ∧ (∀ x, x < n → us x ≤ 1) ∧ (∀ x, x < n → (us x = 1 ↔ ∃ j, j < i ∧ a j = x))
theorem hp_Se0 {n : Nat} {a o0 us : Nat → Nat} (h : ∀ x, x < n → us x = 0) : hp_Se n a o0 0 us o0 :=
  ⟨fun j h => by omega, fun _ _ => rfl, fun x hx => by rw [h x hx]; omega, fun x hx => ⟨fun q => by have := h x hx; omega, fun ⟨j, q, _⟩ => by omega⟩⟩
theorem hp_Ses {n : Nat} {G a o0 us o : Nat → Nat} {i : Nat} (S : hp_So n G a) (hi : i < n) (h : hp_Se n a o0 i us o) : hp_Se n a o0 (i + 1) (hp_u us (a i) 1) (hp_u o i (a i)) := by
  obtain ⟨h1, h2, h3, h4⟩ := h
  refine ⟨fun j hj => ?_, fun j hj => ?_, fun x hx => ?_, fun x hx => ?_⟩
  · by_cases e : j = i
    · subst e; rw [hp_us]
    · rw [hp_un e]; exact h1 j (by omega)
  · rw [hp_un (by omega)]; exact h2 j (by omega)
  · by_cases e : x = a i
    · subst e; rw [hp_us]; omega
    · rw [hp_un e]; exact h3 x hx
  · by_cases e : x = a i
    · subst e; rw [hp_us]; exact ⟨fun _ => ⟨i, by omega, rfl⟩, fun _ => rfl⟩
    · rw [hp_un e, h4 x hx]
      refine ⟨fun ⟨j, hj, q⟩ => ⟨j, by omega, q⟩, fun ⟨j, hj, q⟩ => ⟨j, ?_, q⟩⟩
      by_cases z : j = i
      · subst z; exact absurd q.symm e
      · omega
theorem hp_Seu {n : Nat} {a o0 us o : Nat → Nat} (h : hp_Se n a o0 n us o) (ha : ∀ j, n ≤ j → a j = o0 j) : o = a := by
  funext j
  rcases Nat.lt_or_ge j n with z | z
  · exact h.1 j z
  · rw [h.2.1 j z, ha j z]
end
section
/-! ===== placing ===== -/
/-- when the data of edge e is at processor p -/
def hp_ar (EU EC PR FN : Nat → Nat) (p e : Nat) : Nat := FN (EU e) + (if PR (EU e) = p then 0 else EC e)
/-- no placed task (the first i of the list a) on p is in the way of s, s + d -/
def hp_Fr (a PR ST FN : Nat → Nat) (i p d s : Nat) : Prop := ∀ j, j < i → PR (a j) = p → ¬ (s < FN (a j) ∧ ST (a j) < s + d)
def hp_Le (a PR ST FN : Nat → Nat) (i p d ready s : Nat) : Prop :=
  ready ≤ s ∧ hp_Fr a PR ST FN i p d s ∧ ∀ s', ready ≤ s' → hp_Fr a PR ST FN i p d s' → s ≤ s'
theorem hp_LeE {a PR ST FN : Nat → Nat} {i p d ready B : Nat} (hB : ∀ j, j < i → FN (a j) ≤ B) : ∃ s, hp_Le a PR ST FN i p d ready s ∧ s ≤ ready + B := by
  have h0 : ready ≤ ready + B ∧ hp_Fr a PR ST FN i p d (ready + B) := ⟨by omega, fun j hj _ h => by have := hB j hj; omega⟩
  obtain ⟨s, ⟨h1, h2⟩, h3⟩ := pk_least (fun s => ready ≤ s ∧ hp_Fr a PR ST FN i p d s) ⟨_, h0⟩
  have hmin : ∀ s', ready ≤ s' → hp_Fr a PR ST FN i p d s' → s ≤ s' := fun s' q r => by
    rcases Nat.lt_or_ge s' s with z | z
    · exact (h3 s' z ⟨q, r⟩).elim
    · exact z
  exact ⟨s, ⟨h1, h2, hmin⟩, hmin _ h0.1 h0.2⟩
theorem hp_LeB {a PR ST FN : Nat → Nat} {i p d ready B s : Nat} (hB : ∀ j, j < i → FN (a j) ≤ B) (hr : ready ≤ B) (h : hp_Le a PR ST FN i p d ready s) : s ≤ B :=
  h.2.2 B hr (fun j hj _ q => by have := hB j hj; omega)
theorem hp_LeU {a PR ST FN : Nat → Nat} {i p d ready s s' : Nat} (h : hp_Le a PR ST FN i p d ready s) (g : hp_Le a PR ST FN i p d ready s') : s = s' :=
  Nat.le_antisymm (h.2.2 s' g.1 g.2.1) (g.2.2 s h.1 h.2.1)
/-- a start that is not the ready time is some placed task's finish -/
theorem hp_LeF {a PR ST FN : Nat → Nat} {i p d ready s : Nat} (h : hp_Le a PR ST FN i p d ready s) (hr : ready < s) : ∃ j, j < i ∧ PR (a j) = p ∧ FN (a j) = s := by
  obtain ⟨h1, h2, h3⟩ := h
  have hn : ¬ hp_Fr a PR ST FN i p d (s - 1) := fun q => by have := h3 (s - 1) (by omega) q; omega
  refine Classical.byContradiction fun hc => hn fun j hj hp q => hc ⟨j, hj, hp, ?_⟩
  have := h2 j hj hp
  omega
/-- the class's search; head of pass k -/
def hp_EK (a PR ST FN : Nat → Nat) (i p d ready k s : Nat) : Prop :=
  ready ≤ s ∧ (∀ s', ready ≤ s' → hp_Fr a PR ST FN i p d s' → s ≤ s') ∧ (hp_Fr a PR ST FN i p d s ∨ k ≤ cn (fun j => FN (a j) ≤ s) i)
def hp_EI (a PR ST FN : Nat → Nat) (i p d ready s0 q s : Nat) : Prop :=
  ready ≤ s ∧ (∀ s', ready ≤ s' → hp_Fr a PR ST FN i p d s' → s ≤ s') ∧ s0 ≤ s ∧ ((s = s0 ∧ hp_Fr a PR ST FN q p d s0) ∨ cn (fun j => FN (a j) ≤ s0) i + 1 ≤ cn (fun j => FN (a j) ≤ s) i)
theorem hp_EK0 {a PR ST FN : Nat → Nat} {i p d ready : Nat} : hp_EK a PR ST FN i p d ready 0 ready := ⟨Nat.le_refl _, fun _ h _ => h, Or.inr (Nat.zero_le _)⟩
theorem hp_EI0 {a PR ST FN : Nat → Nat} {i p d ready k s : Nat} (h : hp_EK a PR ST FN i p d ready k s) : hp_EI a PR ST FN i p d ready s 0 s :=
  ⟨h.1, h.2.1, Nat.le_refl _, Or.inl ⟨rfl, fun j hj => by omega⟩⟩
theorem hp_EIs {a PR ST FN : Nat → Nat} {i p d ready s0 q s : Nat} (hq : q < i) (h : hp_EI a PR ST FN i p d ready s0 q s) (hp : PR (a q) = p) (h1 : ST (a q) < s + d) (h2 : s < FN (a q)) : hp_EI a PR ST FN i p d ready s0 (q + 1) (FN (a q)) := by
  obtain ⟨g1, g2, g3, g4⟩ := h
  refine ⟨by omega, fun s' hs hf => ?_, by omega, Or.inr ?_⟩
  · have x := g2 s' hs hf
    have y := hf q hq hp
    omega
  · have x := cn_lt (P := fun j => FN (a j) ≤ s) (Q := fun j => FN (a j) ≤ FN (a q)) (a := q) (show ¬ FN (a q) ≤ s by omega) (Nat.le_refl _) (N := i) (fun k _ (hk : FN (a k) ≤ s) => (show FN (a k) ≤ FN (a q) by omega)) hq
    have y := cn_mono (P := fun j => FN (a j) ≤ s0) (Q := fun j => FN (a j) ≤ s) (N := i) (fun k _ (hk : FN (a k) ≤ s0) => (show FN (a k) ≤ s by omega))
    omega
theorem hp_EIn {a PR ST FN : Nat → Nat} {i p d ready s0 q s : Nat} (h : hp_EI a PR ST FN i p d ready s0 q s) (hn : ¬ (PR (a q) = p ∧ ST (a q) < s + d ∧ s < FN (a q))) : hp_EI a PR ST FN i p d ready s0 (q + 1) s := by
  obtain ⟨g1, g2, g3, g4⟩ := h
  refine ⟨g1, g2, g3, ?_⟩
  rcases g4 with ⟨e, g4⟩ | g4
  · refine Or.inl ⟨e, fun j hj hp z => ?_⟩
    by_cases w : j = q
    · subst w
      exact hn ⟨hp, by omega, by omega⟩
    · exact g4 j (by omega) hp z
  · exact Or.inr g4
theorem hp_EIe {a PR ST FN : Nat → Nat} {i p d ready k s0 s : Nat} (h : hp_EK a PR ST FN i p d ready k s0) (g : hp_EI a PR ST FN i p d ready s0 i s) : hp_EK a PR ST FN i p d ready (k + 1) s := by
  obtain ⟨h1, h2, h3⟩ := h
  obtain ⟨g1, g2, g3, g4⟩ := g
  refine ⟨g1, g2, ?_⟩
  rcases g4 with ⟨e, g4⟩ | g4
  · rw [e]; exact Or.inl g4
  · rcases h3 with h3 | h3
    · have : s = s0 := Nat.le_antisymm (g2 s0 h1 h3) g3
      rw [this]; exact Or.inl h3
    · exact Or.inr (by omega)
theorem hp_EKe {a PR ST FN : Nat → Nat} {i p d ready s : Nat} (h : hp_EK a PR ST FN i p d ready i s) : hp_Le a PR ST FN i p d ready s := by
  obtain ⟨h1, h2, h3⟩ := h
  refine ⟨h1, ?_, h2⟩
  rcases h3 with h3 | h3
  · exact h3
  · intro j hj _ q
    have : FN (a j) ≤ s := hp_cnT h3 j hj
    omega
/-- the reference's search: after all tasks below t -/
def hp_Es (U : Nat → Prop) (PR FN : Nat → Nat) (p ready s t : Nat) (o : Option Nat) : Prop :=
  (∀ b, o = some b → s ≤ b) ∧ (o = some s ∨ (ready < s ∧ ∀ x, x < t → U x → PR x = p → FN x ≠ s))
theorem hp_EsA {U : Nat → Prop} {a PR ST FN : Nat → Nat} {i p d ready s : Nat} (h : hp_Le a PR ST FN i p d ready s) (hf : hp_Fr a PR ST FN i p d ready) : hp_Es U PR FN p ready s 0 (some ready) := by
  have e : s = ready := Nat.le_antisymm (h.2.2 ready (Nat.le_refl _) hf) h.1
  subst e
  exact ⟨fun b hb => by cases hb; exact Nat.le_refl _, Or.inl rfl⟩
theorem hp_EsB {U : Nat → Prop} {a PR ST FN : Nat → Nat} {i p d ready s : Nat} (h : hp_Le a PR ST FN i p d ready s) (hf : ¬ hp_Fr a PR ST FN i p d ready) : hp_Es U PR FN p ready s 0 none := by
  refine ⟨fun b hb => (nomatch hb), Or.inr ⟨?_, fun x hx => by omega⟩⟩
  rcases Nat.lt_or_ge ready s with z | z
  · exact z
  · have e : s = ready := Nat.le_antisymm z h.1
    rw [e] at h
    exact absurd h.2.1 hf
theorem hp_EsK {U : Nat → Prop} {PR FN : Nat → Nat} {p ready s t : Nat} {o : Option Nat} (h : hp_Es U PR FN p ready s t o) (hk : ready < s → o ≠ some s → U t → PR t = p → FN t = s → False) : hp_Es U PR FN p ready s (t + 1) o := by
  obtain ⟨h1, h2⟩ := h
  refine ⟨h1, ?_⟩
  by_cases z : o = some s
  · exact Or.inl z
  · rcases h2 with h2 | ⟨h2, h3⟩
    · exact Or.inl h2
    · refine Or.inr ⟨h2, fun x hx hu hp hf => ?_⟩
      by_cases e : x = t
      · subst e
        exact hk h2 z hu hp hf
      · exact h3 x (by omega) hu hp hf
theorem hp_EsT {U : Nat → Prop} {a PR ST FN : Nat → Nat} {i p d ready s t : Nat} {o : Option Nat} (hL : hp_Le a PR ST FN i p d ready s) (h : hp_Es U PR FN p ready s t o) (hr : ready < FN t) (hb : ∀ b, o = some b → FN t < b) (hf : hp_Fr a PR ST FN i p d (FN t)) : hp_Es U PR FN p ready s (t + 1) (some (FN t)) := by
  obtain ⟨h1, h2⟩ := h
  have hs := hL.2.2 (FN t) (by omega) hf
  refine ⟨fun b e => by cases e; exact hs, ?_⟩
  by_cases e : FN t = s
  · rw [e]; exact Or.inl rfl
  · rcases h2 with h2 | ⟨h2, h3⟩
    · have := hb s h2
      omega
    · refine Or.inr ⟨h2, fun x hx hu hp => ?_⟩
      by_cases z : x = t
      · subst z; exact e
      · exact h3 x (by omega) hu hp
theorem hp_EsE {U : Nat → Prop} {a PR ST FN : Nat → Nat} {n i p d ready s : Nat} {o : Option Nat} (hL : hp_Le a PR ST FN i p d ready s) (ha : ∀ j, j < i → a j < n) (hU : ∀ j, j < i → U (a j)) (h : hp_Es U PR FN p ready s n o) : o = some s := by
  rcases h.2 with h2 | ⟨h2, h3⟩
  · exact h2
  · obtain ⟨j, hj, hp, hf⟩ := hp_LeF hL h2
    exact absurd hf (h3 (a j) (ha j hj) (hU j hj) hp)
theorem hp_FrU {U : Nat → Prop} {a PR ST FN : Nat → Nat} {n i p d s : Nat} (ha : ∀ j, j < i → a j < n) (hU : ∀ x, x < n → (U x ↔ ∃ j, j < i ∧ a j = x)) : hp_Fr a PR ST FN i p d s ↔ ∀ x, x < n → U x → PR x = p → ¬ (s < FN x ∧ ST x < s + d) := by
  constructor
  · intro h x hx hu hp
    obtain ⟨j, hj, e⟩ := (hU x hx).mp hu
    subst e
    exact h j hj hp
  · intro h j hj hp
    exact h (a j) (ha j hj) ((hU _ (ha j hj)).mpr ⟨j, hj, rfl⟩) hp
/-! ===== the best processor ===== -/
def hp_bp (g : Nat → Nat) : Nat → Nat
  | 0 => 0
  | p + 1 => if g p < g (hp_bp g p) then p else hp_bp g p
theorem hp_bp1 (g : Nat → Nat) : hp_bp g 1 = 0 := by
  show (if g 0 < g 0 then 0 else 0) = 0
  split <;> rfl
theorem hp_bpL (g : Nat → Nat) : ∀ p, 0 < p → hp_bp g p < p
  | 0, h => by omega
  | p + 1, _ => by
    rw [hp_bp]
    split
    · omega
    · rcases Nat.eq_zero_or_pos p with z | z
      · subst z; exact Nat.zero_lt_one
      · have := hp_bpL g p z; omega
/-! ===== the plan, position by position ===== -/
def hp_PK (P m : Nat) (W EU EV a : Nat → Nat) (i : Nat) (PR ST FN : Nat → Nat) (mk : Nat) : Prop :=
  (∀ j, j < i → PR (a j) < P ∧ FN (a j) = ST (a j) + W (a j * 4 + PR (a j)) ∧ FN (a j) ≤ 200 * (j + 1)) ∧
  (∀ e j, e < m → j < i → EV e = a j → FN (EU e) ≤ ST (EV e)) ∧
  (∀ j k, j < k → k < i → PR (a j) = PR (a k) → FN (a j) ≤ ST (a k) ∨ FN (a k) ≤ ST (a j)) ∧ mk ≤ 200 * i
theorem hp_PK0 {P m : Nat} {W EU EV a PR ST FN : Nat → Nat} : hp_PK P m W EU EV a 0 PR ST FN 0 :=
  ⟨fun j h => by omega, fun e j _ h => by omega, fun j k _ h => by omega, Nat.le_refl _⟩
/-- what a task waits for stands before it in the list -/
def hp_Bf (n m : Nat) (EU EV a : Nat → Nat) : Prop := ∀ e j, e < m → j < n → EV e = a j → ∃ k, k < j ∧ a k = EU e
theorem hp_BfR {n m : Nat} {EU EV a G : Nat → Nat} (S : hp_So n G a) (hE : ∀ e, e < m → EU e < n) (h : ∀ e, e < m → G (EU e) < G (EV e)) : hp_Bf n m EU EV a := by
  intro e j he hj q
  obtain ⟨k, hk, w⟩ := S.2.1 (EU e) (hE e he)
  refine ⟨k, ?_, w⟩
  have x := h e he
  rcases Nat.lt_trichotomy k j with z | z | z
  · exact z
  · subst z
    rw [q, w] at x
    exact absurd x (Nat.lt_irrefl _)
  · have y := S.2.2 j k z hk
    rw [w, ← q] at y
    unfold hp_bf at y
    omega
theorem hp_PKf {P m n : Nat} {W EU EV a PR ST FN : Nat → Nat} {i mk : Nat} (hB : hp_Bf n m EU EV a) (hi : i < n) (h : hp_PK P m W EU EV a i PR ST FN mk) {e : Nat} (he : e < m) (q : EV e = a i) : FN (EU e) ≤ 200 * i := by
  obtain ⟨k, hk, w⟩ := hB e i he hi q
  have := (h.1 k hk).2.2
  rw [w] at this
  omega
theorem hp_PKr {P m n : Nat} {W EU EV EC a PR ST FN : Nat → Nat} {i mk p : Nat} (hE : ∀ e, e < m → EC e ≤ 100) (hB : hp_Bf n m EU EV a) (hi : i < n) (h : hp_PK P m W EU EV a i PR ST FN mk) : hp_mx EV (a i) (hp_ar EU EC PR FN p) 0 m ≤ 200 * i + 100 := by
  refine hp_mxL (by omega) m (fun e he q => ?_)
  have x := hp_PKf hB hi h he q
  have y := hE e he
  unfold hp_ar
  split <;> omega
theorem hp_PKs {P m n : Nat} {W EU EV EC a G PR ST FN : Nat → Nat} {i mk bp bs : Nat} (S : hp_So n G a) (hE : ∀ e, e < m → EC e ≤ 100) (hB : hp_Bf n m EU EV a) (hi : i < n) (h : hp_PK P m W EU EV a i PR ST FN mk)
    (hbp : bp < P) (hw : W (a i * 4 + bp) ≤ 100) (hs : hp_Le a PR ST FN i bp (W (a i * 4 + bp)) (hp_mx EV (a i) (hp_ar EU EC PR FN bp) 0 m) bs) :
    bs + W (a i * 4 + bp) ≤ 200 * (i + 1) ∧ (∀ mk', mk' ≤ 200 * (i + 1) → hp_PK P m W EU EV a (i + 1) (hp_u PR (a i) bp) (hp_u ST (a i) bs) (hp_u FN (a i) (bs + W (a i * 4 + bp))) mk') := by
  have hr := hp_PKr (p := bp) hE hB hi h
  have hbs : bs ≤ 200 * i + 100 := hp_LeB (B := 200 * i + 100) (fun j hj => by have := (h.1 j hj).2.2; omega) hr hs
  obtain ⟨h1, h2, h3, h4⟩ := h
  have ne : ∀ j, j < i → a j ≠ a i := fun j hj q => by have := hp_soI S (by omega) hi q; omega
  refine ⟨by omega, fun mk' hmk => ⟨fun j hj => ?_, fun e j he hj q => ?_, fun j k hjk hk hp => ?_, hmk⟩⟩
  · by_cases e : j = i
    · subst e
      rw [hp_us, hp_us, hp_us]
      exact ⟨hbp, rfl, by omega⟩
    · have z := ne j (by omega)
      rw [hp_un z, hp_un z, hp_un z]
      exact h1 j (by omega)
  · obtain ⟨k, hk, w⟩ := hB e j he (by omega) q
    have z : EU e ≠ a i := by rw [← w]; exact ne k (by omega)
    by_cases y : j = i
    · subst y
      rw [hp_un z, q, hp_us]
      have g := hp_mxG (K := EV) (t := a j) (g := hp_ar EU EC PR FN bp) (b := 0) m e he q
      have g2 : FN (EU e) ≤ hp_ar EU EC PR FN bp e := Nat.le_add_right _ _
      have := hs.1
      omega
    · have y2 := ne j (by omega)
      rw [hp_un z, q, hp_un y2, ← q]
      exact h2 e j he (by omega) q
  · have zj := ne j (by omega)
    by_cases y : k = i
    · subst y
      rw [hp_un zj, hp_us] at hp
      rw [hp_un zj, hp_un zj, hp_us, hp_us]
      have := hs.2.1 j (by omega) hp
      omega
    · have zk := ne k (by omega)
      rw [hp_un zj, hp_un zk] at hp
      rw [hp_un zj, hp_un zj, hp_un zk, hp_un zk]
      exact h3 j k hjk (by omega) hp
/-- what a finished plan holds -/
def hp_Pl (P n m : Nat) (W EU EV PR ST FN : Nat → Nat) : Prop :=
  (∀ t, t < n → PR t < P ∧ FN t = ST t + W (t * 4 + PR t) ∧ FN t ≤ 3200) ∧ (∀ e, e < m → FN (EU e) ≤ ST (EV e)) ∧
  (∀ t t', t < n → t' < n → PR t = PR t' → ST t = ST t' → t = t')
theorem hp_PKe {P m n : Nat} {W EU EV EC a G PR ST FN : Nat → Nat} {mk : Nat} (GG : hp_G P n m W EU EV EC) (S : hp_So n G a) (h : hp_PK P m W EU EV a n PR ST FN mk) : hp_Pl P n m W EU EV PR ST FN := by
  obtain ⟨h1, h2, h3, h4⟩ := h
  obtain ⟨hP1, hP, hn, hm, hW, hE, hT⟩ := GG
  have key : ∀ j k, j < k → k < n → PR (a j) = PR (a k) → ST (a j) = ST (a k) → False := by
    intro j k hjk hk hp hs
    have x := h1 j (by omega)
    have y := h1 k hk
    have x2 := hW (a j) _ (S.1 j (by omega)) x.1
    have y2 := hW (a k) _ (S.1 k hk) y.1
    have := h3 j k hjk hk hp
    omega
  refine ⟨fun t ht => ?_, fun e he => ?_, fun t t' ht ht' hp hs => ?_⟩
  · obtain ⟨j, hj, rfl⟩ := S.2.1 t ht
    have := h1 j hj
    exact ⟨this.1, this.2.1, by omega⟩
  · obtain ⟨j, hj, w⟩ := S.2.1 (EV e) (hE e he).2.1
    exact h2 e j he hj w.symm
  · obtain ⟨j, hj, rfl⟩ := S.2.1 t ht
    obtain ⟨k, hk, rfl⟩ := S.2.1 t' ht'
    rcases Nat.lt_trichotomy j k with z | z | z
    · exact (key j k z hk hp hs).elim
    · rw [z]
    · exact (key k j z hj hp.symm hs.symm).elim
end
section
/-! ===== the plan as a function ===== -/
noncomputable def hp_es (m : Nat) (W EU EV EC a PR ST FN : Nat → Nat) (i p : Nat) : Nat :=
  Classical.epsilon (hp_Le a PR ST FN i p (W (a i * 4 + p)) (hp_mx EV (a i) (hp_ar EU EC PR FN p) 0 m))
noncomputable def hp_fs (m : Nat) (W EU EV EC a PR ST FN : Nat → Nat) (i p : Nat) : Nat := hp_es m W EU EV EC a PR ST FN i p + W (a i * 4 + p)
theorem hp_esL {P m : Nat} {W EU EV EC a PR ST FN : Nat → Nat} {i mk : Nat} (h : hp_PK P m W EU EV a i PR ST FN mk) (p : Nat) :
    hp_Le a PR ST FN i p (W (a i * 4 + p)) (hp_mx EV (a i) (hp_ar EU EC PR FN p) 0 m) (hp_es m W EU EV EC a PR ST FN i p) := by
  obtain ⟨s, hs, _⟩ := hp_LeE (a := a) (PR := PR) (ST := ST) (FN := FN) (i := i) (p := p) (d := W (a i * 4 + p)) (ready := hp_mx EV (a i) (hp_ar EU EC PR FN p) 0 m) (B := 200 * i) (fun j hj => by have := (h.1 j hj).2.2; omega)
  exact Classical.epsilon_spec ⟨s, hs⟩
theorem hp_esB {P m n : Nat} {W EU EV EC a PR ST FN : Nat → Nat} {i mk : Nat} (hE : ∀ e, e < m → EC e ≤ 100) (hB : hp_Bf n m EU EV a) (hi : i < n) (h : hp_PK P m W EU EV a i PR ST FN mk) (p : Nat) :
    hp_es m W EU EV EC a PR ST FN i p ≤ 200 * i + 100 :=
  hp_LeB (B := 200 * i + 100) (fun j hj => by have := (h.1 j hj).2.2; omega) (hp_PKr hE hB hi h) (hp_esL h p)
/-- the best processor for position i, its start, its finish -/
noncomputable def hp_zb (P m : Nat) (W EU EV EC a PR ST FN : Nat → Nat) (i : Nat) : Nat := hp_bp (hp_fs m W EU EV EC a PR ST FN i) P
noncomputable def hp_nx (P m : Nat) (W EU EV EC a : Nat → Nat) (i : Nat) (z : (Nat → Nat) × (Nat → Nat) × (Nat → Nat) × Nat) : (Nat → Nat) × (Nat → Nat) × (Nat → Nat) × Nat :=
  (hp_u z.1 (a i) (hp_zb P m W EU EV EC a z.1 z.2.1 z.2.2.1 i),
   hp_u z.2.1 (a i) (hp_es m W EU EV EC a z.1 z.2.1 z.2.2.1 i (hp_zb P m W EU EV EC a z.1 z.2.1 z.2.2.1 i)),
   hp_u z.2.2.1 (a i) (hp_fs m W EU EV EC a z.1 z.2.1 z.2.2.1 i (hp_zb P m W EU EV EC a z.1 z.2.1 z.2.2.1 i)),
   if z.2.2.2 < hp_fs m W EU EV EC a z.1 z.2.1 z.2.2.1 i (hp_zb P m W EU EV EC a z.1 z.2.1 z.2.2.1 i) then hp_fs m W EU EV EC a z.1 z.2.1 z.2.2.1 i (hp_zb P m W EU EV EC a z.1 z.2.1 z.2.2.1 i) else z.2.2.2)
noncomputable def hp_Z (P m : Nat) (W EU EV EC a PR ST FN : Nat → Nat) : Nat → (Nat → Nat) × (Nat → Nat) × (Nat → Nat) × Nat
  | 0 => (PR, ST, FN, 0)
  | i + 1 => hp_nx P m W EU EV EC a i (hp_Z P m W EU EV EC a PR ST FN i)
theorem hp_nxK {P n m : Nat} {W EU EV EC a GG PR ST FN : Nat → Nat} {i mk : Nat} (G : hp_G P n m W EU EV EC) (S : hp_So n GG a) (hB : hp_Bf n m EU EV a) (hi : i < n) (h : hp_PK P m W EU EV a i PR ST FN mk) :
    hp_zb P m W EU EV EC a PR ST FN i < P ∧ hp_fs m W EU EV EC a PR ST FN i (hp_zb P m W EU EV EC a PR ST FN i) ≤ 200 * (i + 1) ∧
    hp_PK P m W EU EV a (i + 1) (hp_nx P m W EU EV EC a i (PR, ST, FN, mk)).1 (hp_nx P m W EU EV EC a i (PR, ST, FN, mk)).2.1 (hp_nx P m W EU EV EC a i (PR, ST, FN, mk)).2.2.1 (hp_nx P m W EU EV EC a i (PR, ST, FN, mk)).2.2.2 := by
  obtain ⟨hP1, hP, hn, hm, hW, hE, hT⟩ := G
  have hb : hp_zb P m W EU EV EC a PR ST FN i < P := hp_bpL _ P (by omega)
  have hw := (hW (a i) _ (S.1 i hi) hb).2
  obtain ⟨q1, q2⟩ := hp_PKs (EC := EC) S (fun e he => (hE e he).2.2) hB hi h hb hw (hp_esL h _)
  refine ⟨hb, q1, q2 _ ?_⟩
  have h4 := h.2.2.2
  have q1' : hp_fs m W EU EV EC a PR ST FN i (hp_zb P m W EU EV EC a PR ST FN i) ≤ 200 * (i + 1) := q1
  show (if mk < hp_fs m W EU EV EC a PR ST FN i (hp_zb P m W EU EV EC a PR ST FN i) then hp_fs m W EU EV EC a PR ST FN i (hp_zb P m W EU EV EC a PR ST FN i) else mk) ≤ 200 * (i + 1)
  split <;> omega
theorem hp_ZK {P n m : Nat} {W EU EV EC a GG PR ST FN : Nat → Nat} (G : hp_G P n m W EU EV EC) (S : hp_So n GG a) (hB : hp_Bf n m EU EV a) : ∀ i, i ≤ n →
    hp_PK P m W EU EV a i (hp_Z P m W EU EV EC a PR ST FN i).1 (hp_Z P m W EU EV EC a PR ST FN i).2.1 (hp_Z P m W EU EV EC a PR ST FN i).2.2.1 (hp_Z P m W EU EV EC a PR ST FN i).2.2.2
  | 0, _ => hp_PK0
  | i + 1, h => (hp_nxK G S hB (by omega) (hp_ZK G S hB i (by omega))).2.2
end
section
/-! ===== the replay ===== -/
theorem hp_soP {n : Nat} {G a : Nat → Nat} (S : hp_So n G a) {i k : Nat} (hi : i < n) (hk : k < n) (h : G (a k) < G (a i)) : k < i := by
  rcases Nat.lt_trichotomy k i with z | z | z
  · exact z
  · subst z; exact absurd h (Nat.lt_irrefl _)
  · have := S.2.2 i k z hk
    unfold hp_bf at this
    omega
theorem hp_soL {n : Nat} {G a : Nat → Nat} (S : hp_So n G a) {i k : Nat} (hi : i < n) (h : k ≤ i) : G (a k) ≤ G (a i) := by
  by_cases e : k = i
  · rw [e]; exact Nat.le_refl _
  · have := S.2.2 k i (by omega) hi
    unfold hp_bf at this
    omega
/-- the task before t on its processor -/
def hp_pv (n : Nat) (PR ST : Nat → Nat) (t x : Nat) : Prop :=
  x < n ∧ PR x = PR t ∧ ST x < ST t ∧ ∀ y, y < n → PR y = PR t → ST y < ST t → ST y ≤ ST x
def hp_Bs (n : Nat) (PR ST RF : Nat → Nat) (t b : Nat) : Prop :=
  (b = 0 ∧ ∀ x, x < n → PR x = PR t → ¬ ST x < ST t) ∨ (∃ x, hp_pv n PR ST t x ∧ b = RF x)
theorem hp_BsM {n : Nat} {PR ST r R : Nat → Nat} {t b b' : Nat} (hd : ∀ x y, x < n → y < n → PR x = PR y → ST x = ST y → x = y) (h : hp_Bs n PR ST r t b') (g : hp_Bs n PR ST R t b) :
    ((∀ x, x < n → r x ≤ R x) → b' ≤ b) ∧ ((∀ x, x < n → ST x < ST t → r x = R x) → b' = b) := by
  rcases h with ⟨e1, h⟩ | ⟨x, hx, e1⟩
  · rcases g with ⟨e2, g⟩ | ⟨y, hy, e2⟩
    · exact ⟨fun _ => by omega, fun _ => by omega⟩
    · exact absurd hy.2.2.1 (h y hy.1 hy.2.1)
  · rcases g with ⟨e2, g⟩ | ⟨y, hy, e2⟩
    · exact absurd hx.2.2.1 (g x hx.1 hx.2.1)
    · have a1 := hx.2.2.2 y hy.1 hy.2.1 hy.2.2.1
      have a2 := hy.2.2.2 x hx.1 hx.2.1 hx.2.2.1
      have e : x = y := hd x y hx.1 hy.1 (by rw [hx.2.1, hy.2.1]) (by omega)
      subst e
      rw [e1, e2]
      exact ⟨fun q => q x hx.1, fun q => q x hx.1 hx.2.2.1⟩
theorem hp_BsC {n : Nat} {PR ST r R : Nat → Nat} {t b : Nat} (g : hp_Bs n PR ST r t b) (h : ∀ x, x < n → ST x < ST t → R x = r x) : hp_Bs n PR ST R t b := by
  rcases g with g | ⟨x, hx, e⟩
  · exact Or.inl g
  · exact Or.inr ⟨x, hx, by rw [e, h x hx.1 hx.2.2.1]⟩
/-- one task's replay -/
def hp_R1 (n m : Nat) (W D EU EV EC PR ST RS RF : Nat → Nat) (t : Nat) : Prop :=
  (∃ b, hp_Bs n PR ST RF t b ∧ RS t = hp_mx EV t (hp_ar EU EC PR RF (PR t)) b m) ∧ RF t = RS t + W (t * 4 + PR t) + D t
def hp_Rp (n m : Nat) (W D EU EV EC PR ST RS RF : Nat → Nat) : Prop :=
  ∀ t, t < n → hp_R1 n m W D EU EV EC PR ST RS RF t ∧ RF t ≤ 4800
def hp_XR (P n m : Nat) (W D EU EV EC PR ST BS : Nat → Nat) (i : Nat) (PF RS RF : Nat → Nat) : Prop :=
  (∀ j, j < i → hp_R1 n m W D EU EV EC PR ST RS RF (BS j) ∧ RF (BS j) ≤ 300 * (j + 1)) ∧
  (∀ p, p < P → (PF p = 0 ∧ ∀ j, j < i → PR (BS j) ≠ p) ∨ (∃ j, j < i ∧ PR (BS j) = p ∧ PF p = RF (BS j) ∧ ∀ k, j < k → k < i → PR (BS k) ≠ p))
theorem hp_XR0 {P n m : Nat} {W D EU EV EC PR ST BS PF RS RF : Nat → Nat} (h : ∀ p, p < P → PF p = 0) : hp_XR P n m W D EU EV EC PR ST BS 0 PF RS RF :=
  ⟨fun j hj => by omega, fun p hp => Or.inl ⟨h p hp, fun j hj => by omega⟩⟩
/-- what a task waits for is before it by planned start -/
theorem hp_PlS {P n m : Nat} {W EU EV EC PR ST FN : Nat → Nat} (G : hp_G P n m W EU EV EC) (L : hp_Pl P n m W EU EV PR ST FN) {e : Nat} (he : e < m) : ST (EU e) < ST (EV e) := by
  obtain ⟨hP1, hP, hn, hm, hW, hE, hT⟩ := G
  have a := L.2.1 e he
  have b := L.1 _ (hE e he).1
  have c := hW _ _ (hE e he).1 b.1
  omega
theorem hp_XRb {P n m : Nat} {W D EU EV EC PR ST FN BS PF RS RF : Nat → Nat} {i : Nat} (G : hp_G P n m W EU EV EC) (L : hp_Pl P n m W EU EV PR ST FN) (S : hp_So n ST BS) (hi : i < n) (h : hp_XR P n m W D EU EV EC PR ST BS i PF RS RF) :
    (∀ e, e < m → EV e = BS i → RF (EU e) ≤ 300 * i) ∧ PF (PR (BS i)) ≤ 300 * i := by
  refine ⟨fun e he q => ?_, ?_⟩
  · obtain ⟨k, hk, w⟩ := S.2.1 (EU e) (G.2.2.2.2.2.1 e he).1
    have x := hp_PlS G L he
    rw [q, ← w] at x
    have := hp_soP S hi hk x
    have := (h.1 k this).2
    rw [w] at this
    omega
  · rcases h.2 _ (L.1 _ (S.1 i hi)).1 with ⟨e, _⟩ | ⟨j, hj, _, e, _⟩
    · omega
    · have := (h.1 j hj).2
      omega
theorem hp_XRs {P n m : Nat} {W D EU EV EC PR ST FN BS PF RS RF : Nat → Nat} {i s : Nat} (G : hp_G P n m W EU EV EC) (L : hp_Pl P n m W EU EV PR ST FN) (S : hp_So n ST BS) (hD : ∀ t, t < n → D t ≤ 100) (hi : i < n) (h : hp_XR P n m W D EU EV EC PR ST BS i PF RS RF)
    (hs : s = hp_mx EV (BS i) (hp_ar EU EC PR RF (PR (BS i))) (PF (PR (BS i))) m) :
    s ≤ 300 * i + 100 ∧ hp_XR P n m W D EU EV EC PR ST BS (i + 1) (hp_u PF (PR (BS i)) (s + W (BS i * 4 + PR (BS i)) + D (BS i))) (hp_u RS (BS i) s) (hp_u RF (BS i) (s + W (BS i * 4 + PR (BS i)) + D (BS i))) := by
  obtain ⟨b1, b2⟩ := hp_XRb G L S hi h
  have hbi := S.1 i hi
  have hE := G.2.2.2.2.2.1
  have hd := L.2.2
  have hsb : s ≤ 300 * i + 100 := by
    rw [hs]
    refine hp_mxL (by omega) m (fun e he q => ?_)
    have x := b1 e he q
    have y := (hE e he).2.2
    unfold hp_ar
    split <;> omega
  have hW := (G.2.2.2.2.1 _ _ hbi (L.1 _ hbi).1).2
  have hDi := hD _ hbi
  refine ⟨hsb, ?_⟩
  obtain ⟨h1, h2⟩ := h
  have ne : ∀ j, j < i → BS j ≠ BS i := fun j hj q => by have := hp_soI S (by omega) hi q; omega
  -- nothing below a place j ≤ i in the order by start is BS i
  have low : ∀ j x, j ≤ i → x < n → ST x < ST (BS j) → x ≠ BS i := by
    intro j x hj hx hst
    obtain ⟨k, hk, w⟩ := S.2.1 x hx
    rw [← w] at hst
    have := hp_soP S (by omega) hk hst
    rw [← w]
    exact ne k (by omega)
  refine ⟨fun j hj => ?_, fun p hp => ?_⟩
  · by_cases e : j = i
    · subst e
      refine ⟨⟨⟨PF (PR (BS j)), ?_, ?_⟩, ?_⟩, ?_⟩
      · refine hp_BsC (r := RF) ?_ (fun x hx hst => hp_un (low j x (Nat.le_refl _) hx hst))
        rcases h2 _ (L.1 _ hbi).1 with ⟨e1, e2⟩ | ⟨k, hk, e1, e2, e3⟩
        · refine Or.inl ⟨e1, fun x hx hp hst => ?_⟩
          obtain ⟨k, hk, w⟩ := S.2.1 x hx
          rw [← w] at hst hp
          exact e2 k (hp_soP S hi hk hst) hp
        · have hkn : k < n := by omega
          have hbk := S.1 k hkn
          refine Or.inr ⟨BS k, ⟨hbk, e1, ?_, fun y hy hp hst => ?_⟩, e2⟩
          · have q := S.2.2 k j hk hi
            unfold hp_bf at q
            rcases q with q | ⟨q, _⟩
            · exact q
            · exact absurd (hd _ _ hbk hbi e1 q) (ne k hk)
          · obtain ⟨l, hl, w⟩ := S.2.1 y hy
            rw [← w] at hst hp ⊢
            have hlj := hp_soP S hi hl hst
            rcases Nat.lt_or_ge k l with z | z
            · exact absurd hp (e3 l z hlj)
            · exact hp_soL S hkn z
      · rw [hp_us]
        refine hs.trans (hp_mxC m rfl (fun e he q => ?_))
        have x := hp_PlS G L he
        rw [q] at x
        have y := low j (EU e) (Nat.le_refl _) (hE e he).1 x
        unfold hp_ar
        rw [hp_un y]
      · rw [hp_us, hp_us]
      · rw [hp_us]; omega
    · have z := ne j (by omega)
      obtain ⟨⟨⟨b, c1, c2⟩, c3⟩, c4⟩ := h1 j (by omega)
      refine ⟨⟨⟨b, hp_BsC c1 (fun x hx hst => hp_un (low j x (by omega) hx hst)), ?_⟩, ?_⟩, ?_⟩
      · rw [hp_un z, c2]
        refine hp_mxC m rfl (fun e he q => ?_)
        have x := hp_PlS G L he
        rw [q] at x
        have y := low j (EU e) (by omega) (hE e he).1 x
        unfold hp_ar
        rw [hp_un y]
      · rw [hp_un z, hp_un z]; exact c3
      · rw [hp_un z]; exact c4
  · by_cases e : p = PR (BS i)
    · subst e
      rw [hp_us]
      exact Or.inr ⟨i, by omega, rfl, by rw [hp_us], fun k hk hk2 => by omega⟩
    · rw [hp_un e]
      rcases h2 p hp with ⟨e1, e2⟩ | ⟨j, hj, e1, e2, e3⟩
      · refine Or.inl ⟨e1, fun j hj => ?_⟩
        by_cases z : j = i
        · subst z; exact fun q => e q.symm
        · exact e2 j (by omega)
      · refine Or.inr ⟨j, by omega, e1, by rw [hp_un (ne j hj)]; exact e2, fun k hk hk2 => ?_⟩
        by_cases z : k = i
        · subst z; exact fun q => e q.symm
        · exact e3 k hk (by omega)
theorem hp_XRe {P n m : Nat} {W D EU EV EC PR ST BS PF RS RF : Nat → Nat} (hn : n ≤ 16) (S : hp_So n ST BS) (h : hp_XR P n m W D EU EV EC PR ST BS n PF RS RF) : hp_Rp n m W D EU EV EC PR ST RS RF := by
  intro t ht
  obtain ⟨j, hj, rfl⟩ := S.2.1 t ht
  have := h.1 j hj
  exact ⟨this.1, by omega⟩
/-- the reference's passes: head of pass k, then within it -/
def hp_YR (n : Nat) (L RS RF : Nat → Nat) (k : Nat) (rs rf : Nat → Nat) : Prop :=
  (∀ t, t < n → rf t ≤ RF t) ∧ (∀ t, t < n → L t < k → rs t = RS t ∧ rf t = RF t)
def hp_YQ (n : Nat) (L RS RF : Nat → Nat) (k i : Nat) (rs rf : Nat → Nat) : Prop :=
  hp_YR n L RS RF k rs rf ∧ (∀ t, t < i → L t < k + 1 → rs t = RS t ∧ rf t = RF t)
theorem hp_YR0 {n : Nat} {L RS RF rs rf : Nat → Nat} (h : ∀ t, t < n → rf t = 0) : hp_YR n L RS RF 0 rs rf :=
  ⟨fun t ht => by rw [h t ht]; exact Nat.zero_le _, fun t ht hk => by omega⟩
theorem hp_YQs {P n m : Nat} {W D EU EV EC PR ST FN L RS RF rs rf : Nat → Nat} {k i b : Nat} (G : hp_G P n m W EU EV EC) (Q : hp_Pl P n m W EU EV PR ST FN) (hL : ∀ a c, a < n → ST a < ST c → L a < L c) (R : hp_Rp n m W D EU EV EC PR ST RS RF) (hi : i < n) (h : hp_YQ n L RS RF k i rs rf) (hb : hp_Bs n PR ST rf i b) :
    hp_mx EV i (hp_ar EU EC PR rf (PR i)) b m + W (i * 4 + PR i) + D i ≤ 4800 ∧
    hp_YQ n L RS RF k (i + 1) (hp_u rs i (hp_mx EV i (hp_ar EU EC PR rf (PR i)) b m)) (hp_u rf i (hp_mx EV i (hp_ar EU EC PR rf (PR i)) b m + W (i * 4 + PR i) + D i)) := by
  obtain ⟨⟨h1, h2⟩, h3⟩ := h
  obtain ⟨⟨⟨c, c1, c2⟩, c3⟩, c4⟩ := R i hi
  have hE := G.2.2.2.2.2.1
  obtain ⟨m1, m2⟩ := hp_BsM Q.2.2 hb c1
  have hle : hp_mx EV i (hp_ar EU EC PR rf (PR i)) b m ≤ RS i := by
    rw [c2]
    refine hp_mxM m (m1 h1) (fun e he _ => ?_)
    exact Nat.add_le_add_right (h1 _ (hE e he).1) _
  have heq : L i < k + 1 → hp_mx EV i (hp_ar EU EC PR rf (PR i)) b m = RS i := by
    intro q
    rw [c2]
    refine hp_mxC m (m2 fun x hx hst => (h2 x hx (by have := hL x i hx hst; omega)).2) (fun e he w => ?_)
    have x := hp_PlS G Q he
    rw [w] at x
    have := hL _ _ (hE e he).1 x
    unfold hp_ar
    rw [(h2 _ (hE e he).1 (by omega)).2]
  refine ⟨by omega, ⟨fun t ht => ?_, fun t ht hk => ?_⟩, fun t ht hk => ?_⟩
  · by_cases e : t = i
    · subst e; rw [hp_us]; omega
    · rw [hp_un e]; exact h1 t ht
  · by_cases e : t = i
    · subst e
      rw [hp_us, hp_us, heq (by omega), c3]
      exact ⟨rfl, rfl⟩
    · rw [hp_un e, hp_un e]; exact h2 t ht hk
  · by_cases e : t = i
    · subst e
      rw [hp_us, hp_us, heq hk, c3]
      exact ⟨rfl, rfl⟩
    · rw [hp_un e, hp_un e]; exact h3 t (by omega) hk
theorem hp_YQe {n : Nat} {L RS RF rs rf : Nat → Nat} {k : Nat} (h : hp_YQ n L RS RF k n rs rf) : hp_YR n L RS RF (k + 1) rs rf := ⟨h.1.1, h.2⟩
/-- the reference's search for the task before t, after all below i -/
def hp_Pv (PR ST : Nat → Nat) (t i : Nat) : Option Nat → Prop
  | none => ∀ x, x < i → PR x = PR t → ¬ ST x < ST t
  | some b => b < i ∧ PR b = PR t ∧ ST b < ST t ∧ ∀ x, x < i → PR x = PR t → ST x < ST t → ST x ≤ ST b
theorem hp_Pv0 (PR ST : Nat → Nat) (t : Nat) : hp_Pv PR ST t 0 none := fun x h => by omega
theorem hp_PvK {PR ST : Nat → Nat} {t i : Nat} {o : Option Nat} (h : hp_Pv PR ST t i o) (hk : PR i = PR t → ST i < ST t → ∃ b, o = some b ∧ ST i ≤ ST b) : hp_Pv PR ST t (i + 1) o := by
  cases o with
  | none =>
    intro x hx hp hs
    by_cases e : x = i
    · subst e
      obtain ⟨b, hb, _⟩ := hk hp hs
      cases hb
    · exact h x (by omega) hp hs
  | some b =>
    obtain ⟨h1, h2, h3, h4⟩ := h
    refine ⟨by omega, h2, h3, fun x hx hp hs => ?_⟩
    by_cases e : x = i
    · subst e
      obtain ⟨c, hc, hle⟩ := hk hp hs
      cases hc
      exact hle
    · exact h4 x (by omega) hp hs
theorem hp_PvT {PR ST : Nat → Nat} {t i : Nat} {o : Option Nat} (h : hp_Pv PR ST t i o) (hp : PR i = PR t) (hs : ST i < ST t) (hb : ∀ b, o = some b → ST b < ST i) : hp_Pv PR ST t (i + 1) (some i) := by
  refine ⟨by omega, hp, hs, fun x hx hxp hxs => ?_⟩
  by_cases e : x = i
  · rw [e]; exact Nat.le_refl _
  · cases o with
    | none => exact absurd hxs (h x (by omega) hxp)
    | some b =>
      have := h.2.2.2 x (by omega) hxp hxs
      have := hb b rfl
      omega
theorem hp_PvN {n : Nat} {PR ST rf : Nat → Nat} {t : Nat} (h : hp_Pv PR ST t n none) : hp_Bs n PR ST rf t 0 := Or.inl ⟨rfl, h⟩
theorem hp_PvS {n : Nat} {PR ST rf : Nat → Nat} {t b : Nat} (h : hp_Pv PR ST t n (some b)) : hp_Bs n PR ST rf t (rf b) := Or.inr ⟨b, h, rfl⟩
/-! ===== how many have finished ===== -/
def hp_ct (f : Nat → Nat) (c : Nat) : Nat → Nat
  | 0 => 0
  | t + 1 => if f t ≤ c then hp_ct f c t + 1 else hp_ct f c t
theorem hp_ctB (f : Nat → Nat) (c : Nat) : ∀ t, hp_ct f c t ≤ t
  | 0 => Nat.le_refl _
  | t + 1 => by
    have := hp_ctB f c t
    rw [hp_ct]
    split <;> omega
theorem hp_ctC {f g : Nat → Nat} {c : Nat} : ∀ t, (∀ x, x < t → f x = g x) → hp_ct f c t = hp_ct g c t
  | 0, _ => rfl
  | t + 1, h => by
    rw [hp_ct, hp_ct, hp_ctC t (fun x hx => h x (by omega)), h t (by omega)]
end
section
/-! ===== the class: its small methods and its readers ===== -/
theorem hp_rd {f : Nat → Nat} {j : Nat} (h : j < 2 ^ 31) : hp_A f (nI j).toNatClampNeg = nI (f j) := by
  rw [nI_clamp h]
  rfl
theorem hp_ix (t p : Nat) : nI t * 4 + nI p = nI (t * 4 + p) := by
  show nI t * nI 4 + nI p = _
  rw [pk_mul, nI_add]
/-- a reading under a name -/
theorem hp_nr {f : Nat → Nat} {j : Nat} {Q : Int32 → Prop} (h : j < 2 ^ 31) (q : Q (nI (f j))) : ∀ x, x = hp_A f (nI j).toNatClampNeg → Q x := nm_r (hp_rd h) q
/-- a store under a name -/
theorem hp_nu {f : Nat → Nat} {j v : Nat} {Q : (Nat → Int32) → Prop} (h : j < 2 ^ 31) (q : Q (hp_A (hp_u f j v))) : ∀ a, a = upd (hp_A f) (nI j).toNatClampNeg (nI v) → Q a :=
  nm_r (by rw [nI_clamp h, hp_uA]) q
theorem hp_n1 {i : Nat} {Q : Int32 → Prop} (q : Q (nI (i + 1))) : ∀ x, x = nI i + 1 → Q x := nm_r (nI_1 i) q
section
variable {P n m : Nat} {cp pl sp nw : Int32} {W D EU EV EC RK OR PR ST FN BS PF RS RF : Nat → Nat}
theorem x_inRange {post : Int32 → Prop} {v a b : Int32} (h0 : v < a ∨ b < v → post 0) (h1 : ¬ v < a → ¬ b < v → post 1) : wpX_inRange post v a b :=
  br_c (fun z => h0 (Or.inl z)) (fun z => br_c (fun y => h0 (Or.inr y)) (fun y => h1 z y))
theorem x_isTask {post : Int32 → Prop} {v : Int32} (hn : n ≤ 16) (h0 : v < 0 ∨ nI n ≤ v → post 0) (h1 : ∀ t, t < n → v = nI t → post 1) : wpX_isTask post (nI P, cp, nI n, nI m, pl, sp, nw, hp_A W, hp_A D, hp_A EU, hp_A EV, hp_A EC, hp_A RK, hp_A OR, hp_A PR, hp_A ST, hp_A FN, hp_A BS, hp_A PF, hp_A RS, hp_A RF) v := by
  refine br_c (fun z => h0 (Or.inl z)) (fun z => br_c (fun y => h0 (Or.inr y)) (fun y => ?_))
  obtain ⟨t, ht, rfl⟩ := nI_of z
  rw [nI_leI (by omega) ht] at y
  exact h1 t (by omega) rfl
theorem x_costOn {post : Int32 → Prop} {t p : Nat} (ht : t < 16) (hp : p < 4) (h : post (nI (W (t * 4 + p)))) : wpX_costOn post (nI P, cp, nI n, nI m, pl, sp, nw, hp_A W, hp_A D, hp_A EU, hp_A EV, hp_A EC, hp_A RK, hp_A OR, hp_A PR, hp_A ST, hp_A FN, hp_A BS, hp_A PF, hp_A RS, hp_A RF) (nI t) (nI p) := by
  show vp_in (nI t * 4 + nI p) 64 ∧ post (hp_A W (nI t * 4 + nI p).toNatClampNeg)
  rw [hp_ix, hp_rd (by omega)]
  exact ⟨pk_in (t * 4 + p) 64 (by omega), h⟩
theorem x_totalCost {post : Int32 → Prop} {t : Nat} (ht : t < 16) (hP : P ≤ 4) (h : post (nI (hp_tc W t P))) : wpX_totalCost post (nI P, cp, nI n, nI m, pl, sp, nw, hp_A W, hp_A D, hp_A EU, hp_A EV, hp_A EC, hp_A RK, hp_A OR, hp_A PR, hp_A ST, hp_A FN, hp_A BS, hp_A PF, hp_A RS, hp_A RF) (nI t) := by
  have key : ∀ f p, p ≤ P → P - p < f → wX_totalCost_4 post (nI t) (nI P) cp (nI n) (nI m) pl sp nw (hp_A W) (hp_A D) (hp_A EU) (hp_A EV) (hp_A EC) (hp_A RK) (hp_A OR) (hp_A PR) (hp_A ST) (hp_A FN) (hp_A BS) (hp_A PF) (hp_A RS) (hp_A RF) f (nI (hp_tc W t p)) (nI p) := by
    intro f
    induction f with
    | zero => intro p _ h; omega
    | succ f ih =>
      intro p hp hf
      refine pk_le P p (fun z => ?_) (fun z => ?_)
      · have e : p = P := by omega
        rw [e]
        exact h
      · refine x_costOn ht (by omega) ?_
        exact nm_r (nI_add _ _) (hp_n1 (ih (p + 1) (by omega) (by omega)))
  exact ⟨P + 1, key (P + 1) 0 (by omega) (by omega)⟩
theorem x_hasEdge {post : Int32 → Prop} {u v : Nat} (hm : m ≤ 32) (hu : u < 16) (hv : v < 16) (hE : ∀ e, e < m → EU e < 16 ∧ EV e < 16) (h1 : (∃ e, e < m ∧ EU e = u ∧ EV e = v) → post 1) (h0 : (∀ e, e < m → ¬ (EU e = u ∧ EV e = v)) → post 0) : wpX_hasEdge post (nI P, cp, nI n, nI m, pl, sp, nw, hp_A W, hp_A D, hp_A EU, hp_A EV, hp_A EC, hp_A RK, hp_A OR, hp_A PR, hp_A ST, hp_A FN, hp_A BS, hp_A PF, hp_A RS, hp_A RF) (nI u) (nI v) := by
  have key : ∀ f i, i ≤ m → m - i < f → (∀ e, e < i → ¬ (EU e = u ∧ EV e = v)) → wX_hasEdge_2 post (nI u) (nI v) (nI P) cp (nI n) (nI m) pl sp nw (hp_A W) (hp_A D) (hp_A EU) (hp_A EV) (hp_A EC) (hp_A RK) (hp_A OR) (hp_A PR) (hp_A ST) (hp_A FN) (hp_A BS) (hp_A PF) (hp_A RS) (hp_A RF) f (nI i) := by
    intro f
    induction f with
    | zero => intro i _ h; omega
    | succ f ih =>
      intro i hi hf hI
      refine pk_le m i (fun z => ?_) (fun z => ?_)
      · have e : i = m := by omega
        rw [e] at hI
        exact h0 hI
      · obtain ⟨e1, e2⟩ := hE i z
        have nx : ¬ (EU i = u ∧ EV i = v) → wX_hasEdge_2 post (nI u) (nI v) (nI P) cp (nI n) (nI m) pl sp nw (hp_A W) (hp_A D) (hp_A EU) (hp_A EV) (hp_A EC) (hp_A RK) (hp_A OR) (hp_A PR) (hp_A ST) (hp_A FN) (hp_A BS) (hp_A PF) (hp_A RS) (hp_A RF) f (nI (i + 1)) := fun q => ih (i + 1) (by omega) (by omega) (lt_s hI q)
        have hi32 : vp_in (nI i) 32 := pk_in i 32 (by omega)
        exact ⟨hi32, pk_eq (EU i) u (fun a => ⟨hi32, pk_eq (EV i) v (fun b => h1 ⟨i, z, a, b⟩) (fun b => hp_n1 (nx fun q => b q.2)) (hx := hp_rd (by omega))⟩) (fun a => hp_n1 (nx fun q => a q.1)) (hx := hp_rd (by omega))⟩
  exact ⟨m + 1, key (m + 1) 0 (by omega) (by omega) (fun e he => by omega)⟩
theorem x_leadsTo {post : Int32 → Prop} {s t : Nat} (hn : n ≤ 16) (hm : m ≤ 32) (hs : s < n) (ht : t < n) (hE : ∀ e, e < m → EU e < n ∧ EV e < n) (h : ∀ S : Nat → Prop, hp_RR n m EU EV s S → (S t → post 1) ∧ (¬ S t → post 0)) : wpX_leadsTo post (nI P, cp, nI n, nI m, pl, sp, nw, hp_A W, hp_A D, hp_A EU, hp_A EV, hp_A EC, hp_A RK, hp_A OR, hp_A PR, hp_A ST, hp_A FN, hp_A BS, hp_A PF, hp_A RS, hp_A RF) (nI s) (nI t) := by
  have inner : ∀ (S0 : Nat → Prop) (x4 : Nat) (J : Int32 → Int32 → Prop), (∀ S x, (∀ j, j < 32 → (bt x j = true ↔ S j)) → hp_RI n m EU EV s S0 m S → J x (nI (x4 + 1))) →
      ∀ f i S x, i ≤ m → m - i < f → (∀ j, j < 32 → (bt x j = true ↔ S j)) → hp_RI n m EU EV s S0 i S → wX_leadsTo_19 post J (nI t) (nI x4) (nI P) cp (nI n) (nI m) pl sp nw (hp_A W) (hp_A D) (hp_A EU) (hp_A EV) (hp_A EC) (hp_A RK) (hp_A OR) (hp_A PR) (hp_A ST) (hp_A FN) (hp_A BS) (hp_A PF) (hp_A RS) (hp_A RF) f x (nI i) := by
    intro S0 x4 J hJ f
    induction f with
    | zero => intro i S x _ h; omega
    | succ f ih =>
      intro i S x hi hf hb hI
      refine pk_le m i (fun z => ?_) (fun z => ?_)
      · have e : i = m := by omega
        rw [e] at hI
        exact hp_n1 (hJ S x hb hI)
      · obtain ⟨e1, e2⟩ := hE i z
        have hi32 : vp_in (nI i) 32 := pk_in i 32 (by omega)
        have eu : hp_A EU (nI i).toNatClampNeg = nI (EU i) := hp_rd (by omega)
        have ev : hp_A EV (nI i).toNatClampNeg = nI (EV i) := hp_rd (by omega)
        refine ⟨hi32, br_c (fun w => hp_n1 ?_) (fun w => ⟨hi32, nm_e (hp_n1 ?_)⟩)⟩
        · rw [eu, hp_band x (by omega), hb _ (by omega)] at w
          exact ih (i + 1) S x (by omega) (by omega) hb (hp_RIn hI w)
        · rw [eu, hp_band x (by omega), hb _ (by omega)] at w
          refine ih (i + 1) (fun j => S j ∨ j = EV i) _ (by omega) (by omega) (fun j hj => ?_) (hp_RIs hI z e2 (Classical.byContradiction w))
          rw [ev, hp_bor x (by omega) hj, hb j hj]
  have outer : ∀ f k S x, k ≤ n → n - k < f → (∀ j, j < 32 → (bt x j = true ↔ S j)) → hp_RO n m EU EV s k S → wX_leadsTo_7 post (nI t) (nI P) cp (nI n) (nI m) pl sp nw (hp_A W) (hp_A D) (hp_A EU) (hp_A EV) (hp_A EC) (hp_A RK) (hp_A OR) (hp_A PR) (hp_A ST) (hp_A FN) (hp_A BS) (hp_A PF) (hp_A RS) (hp_A RF) f x (nI k) := by
    intro f
    induction f with
    | zero => intro k S x _ h; omega
    | succ f ih =>
      intro k S x hk hf hb hO
      refine pk_le n k (fun z => ?_) (fun z => ?_)
      · have e : k = n := by omega
        rw [e] at hO
        obtain ⟨g1, g2⟩ := h S (hp_ROe hO)
        refine br_c (fun w => ?_) (fun w => ?_)
        · rw [hp_band x (by omega), hb _ (by omega)] at w
          exact g2 w
        · rw [hp_band x (by omega), hb _ (by omega)] at w
          exact g1 (Classical.byContradiction w)
      · exact ⟨m + 1, inner S k _ (fun S' x' hb' hI => ih (k + 1) S' x' (by omega) (by omega) hb' (hp_ROs hO hI)) (m + 1) 0 S x (by omega) (by omega) hb (hp_RI0 hO)⟩
  refine nm_e ⟨n + 1, outer (n + 1) 0 (fun j => j = s) _ (by omega) (by omega) (fun j hj => ?_) (hp_RO0 hs)⟩
  rw [hp_bit1 s (by omega) j hj, decide_eq_true_eq]
theorem x_dataReady__finishOf {post : Int32 → Prop} {t p : Nat} (hm : m ≤ 32) (ht : t < 16) (hp : p < 4) (hE : ∀ e, e < m → EU e < 16 ∧ EV e < 16 ∧ EC e ≤ 100) (hF : ∀ e, e < m → EV e = t → FN (EU e) ≤ 100000 ∧ PR (EU e) < 4) (h : post (nI (hp_mx EV t (hp_ar EU EC PR FN p) 0 m))) : wpX_dataReady__finishOf post (nI P, cp, nI n, nI m, pl, sp, nw, hp_A W, hp_A D, hp_A EU, hp_A EV, hp_A EC, hp_A RK, hp_A OR, hp_A PR, hp_A ST, hp_A FN, hp_A BS, hp_A PF, hp_A RS, hp_A RF) (nI t) (nI p) := by
  have bnd : ∀ i, i ≤ m → hp_mx EV t (hp_ar EU EC PR FN p) 0 i ≤ 100100 := fun i hi => hp_mxL (by omega) i (fun e he q => by
    have a := (hF e (by omega) q).1
    have b := (hE e (by omega)).2.2
    unfold hp_ar
    split <;> omega)
  have key : ∀ f i, i ≤ m → m - i < f → wX_dataReady__finishOf_6 post (nI t) (nI p) (nI P) cp (nI n) (nI m) pl sp nw (hp_A W) (hp_A D) (hp_A EU) (hp_A EV) (hp_A EC) (hp_A RK) (hp_A OR) (hp_A PR) (hp_A ST) (hp_A FN) (hp_A BS) (hp_A PF) (hp_A RS) (hp_A RF) f (nI (hp_mx EV t (hp_ar EU EC PR FN p) 0 i)) (nI i) := by
    intro f
    induction f with
    | zero => intro i _ h; omega
    | succ f ih =>
      intro i hi hf
      have bi := bnd i hi
      refine pk_le m i (fun z => ?_) (fun z => ?_)
      · have e : i = m := by omega
        rw [e]
        exact h
      · obtain ⟨e1, e2, e3⟩ := hE i z
        have hi32 : vp_in (nI i) 32 := pk_in i 32 (by omega)
        have hu16 : vp_in (nI (EU i)) 16 := pk_in (EU i) 16 (by omega)
        have nx := ih (i + 1) (by omega) (by omega)
        refine ⟨hi32, pk_eq (EV i) t (fun a => ?_) (fun a => ?_) (hx := hp_rd (by omega))⟩
        · obtain ⟨f1, f2⟩ := hF i z a
          have J : ∀ w, w = hp_ar EU EC PR FN p i → w ≤ 100100 → wX_dataReady__finishOf_65 post (wX_dataReady__finishOf_6 post (nI t) (nI p) (nI P) cp (nI n) (nI m) pl sp nw (hp_A W) (hp_A D) (hp_A EU) (hp_A EV) (hp_A EC) (hp_A RK) (hp_A OR) (hp_A PR) (hp_A ST) (hp_A FN) (hp_A BS) (hp_A PF) (hp_A RS) (hp_A RF) f) (nI t) (nI p) (nI (hp_mx EV t (hp_ar EU EC PR FN p) 0 i)) (nI i) (nI w) (nI P) cp (nI n) (nI m) pl sp nw (hp_A W) (hp_A D) (hp_A EU) (hp_A EV) (hp_A EC) (hp_A RK) (hp_A OR) (hp_A PR) (hp_A ST) (hp_A FN) (hp_A BS) (hp_A PF) (hp_A RS) (hp_A RF) := by
            intro w hw hb
            refine pk_le w (hp_mx EV t (hp_ar EU EC PR FN p) 0 i) (fun q => hp_n1 ?_) (fun q => hp_n1 ?_)
            · rw [hp_mx2 a (by omega)] at nx
              exact nx
            · rw [hp_mx1 a (by omega)] at nx
              rw [hw]
              exact nx
          refine ⟨hi32, hp_nr (by omega) ⟨hu16, pk_eq (PR (EU i)) p (fun b => ⟨hu16, ?_⟩) (fun b => ⟨hu16, hi32, ?_⟩) (hx := hp_rd (by omega))⟩⟩
          · rw [hp_rd (by omega)]
            refine J _ ?_ (by omega)
            unfold hp_ar
            rw [if_pos b, Nat.add_zero]
          · rw [hp_rd (by omega), hp_rd (by omega), nI_add]
            refine J _ ?_ (by omega)
            unfold hp_ar
            rw [if_neg b]
        · rw [hp_mx3 a] at nx
          exact hp_n1 nx
  exact ⟨m + 1, key (m + 1) 0 (by omega) (by omega)⟩
theorem x_dataReady__replayedFinish {post : Int32 → Prop} {t p : Nat} (hm : m ≤ 32) (ht : t < 16) (hp : p < 4) (hE : ∀ e, e < m → EU e < 16 ∧ EV e < 16 ∧ EC e ≤ 100) (hF : ∀ e, e < m → EV e = t → RF (EU e) ≤ 100000 ∧ PR (EU e) < 4) (h : post (nI (hp_mx EV t (hp_ar EU EC PR RF p) 0 m))) : wpX_dataReady__replayedFinish post (nI P, cp, nI n, nI m, pl, sp, nw, hp_A W, hp_A D, hp_A EU, hp_A EV, hp_A EC, hp_A RK, hp_A OR, hp_A PR, hp_A ST, hp_A FN, hp_A BS, hp_A PF, hp_A RS, hp_A RF) (nI t) (nI p) := by
  have bnd : ∀ i, i ≤ m → hp_mx EV t (hp_ar EU EC PR RF p) 0 i ≤ 100100 := fun i hi => hp_mxL (by omega) i (fun e he q => by
    have a := (hF e (by omega) q).1
    have b := (hE e (by omega)).2.2
    unfold hp_ar
    split <;> omega)
  have key : ∀ f i, i ≤ m → m - i < f → wX_dataReady__replayedFinish_6 post (nI t) (nI p) (nI P) cp (nI n) (nI m) pl sp nw (hp_A W) (hp_A D) (hp_A EU) (hp_A EV) (hp_A EC) (hp_A RK) (hp_A OR) (hp_A PR) (hp_A ST) (hp_A FN) (hp_A BS) (hp_A PF) (hp_A RS) (hp_A RF) f (nI (hp_mx EV t (hp_ar EU EC PR RF p) 0 i)) (nI i) := by
    intro f
    induction f with
    | zero => intro i _ h; omega
    | succ f ih =>
      intro i hi hf
      have bi := bnd i hi
      refine pk_le m i (fun z => ?_) (fun z => ?_)
      · have e : i = m := by omega
        rw [e]
        exact h
      · obtain ⟨e1, e2, e3⟩ := hE i z
        have hi32 : vp_in (nI i) 32 := pk_in i 32 (by omega)
        have hu16 : vp_in (nI (EU i)) 16 := pk_in (EU i) 16 (by omega)
        have nx := ih (i + 1) (by omega) (by omega)
        refine ⟨hi32, pk_eq (EV i) t (fun a => ?_) (fun a => ?_) (hx := hp_rd (by omega))⟩
        · obtain ⟨f1, f2⟩ := hF i z a
          have J : ∀ w, w = hp_ar EU EC PR RF p i → w ≤ 100100 → wX_dataReady__replayedFinish_65 post (wX_dataReady__replayedFinish_6 post (nI t) (nI p) (nI P) cp (nI n) (nI m) pl sp nw (hp_A W) (hp_A D) (hp_A EU) (hp_A EV) (hp_A EC) (hp_A RK) (hp_A OR) (hp_A PR) (hp_A ST) (hp_A FN) (hp_A BS) (hp_A PF) (hp_A RS) (hp_A RF) f) (nI t) (nI p) (nI (hp_mx EV t (hp_ar EU EC PR RF p) 0 i)) (nI i) (nI w) (nI P) cp (nI n) (nI m) pl sp nw (hp_A W) (hp_A D) (hp_A EU) (hp_A EV) (hp_A EC) (hp_A RK) (hp_A OR) (hp_A PR) (hp_A ST) (hp_A FN) (hp_A BS) (hp_A PF) (hp_A RS) (hp_A RF) := by
            intro w hw hb
            refine pk_le w (hp_mx EV t (hp_ar EU EC PR RF p) 0 i) (fun q => hp_n1 ?_) (fun q => hp_n1 ?_)
            · rw [hp_mx2 a (by omega)] at nx
              exact nx
            · rw [hp_mx1 a (by omega)] at nx
              rw [hw]
              exact nx
          refine ⟨hi32, hp_nr (by omega) ⟨hu16, pk_eq (PR (EU i)) p (fun b => ⟨hu16, ?_⟩) (fun b => ⟨hu16, hi32, ?_⟩) (hx := hp_rd (by omega))⟩⟩
          · rw [hp_rd (by omega)]
            refine J _ ?_ (by omega)
            unfold hp_ar
            rw [if_pos b, Nat.add_zero]
          · rw [hp_rd (by omega), hp_rd (by omega), nI_add]
            refine J _ ?_ (by omega)
            unfold hp_ar
            rw [if_neg b]
        · rw [hp_mx3 a] at nx
          exact hp_n1 nx
  exact ⟨m + 1, key (m + 1) 0 (by omega) (by omega)⟩
theorem x_planQueryRefusal {post : Int32 → Prop} {v : Int32} (hn : n ≤ 16) (h6 : pl = 0 → post (-6)) (h1 : ¬ pl = 0 → (v < 0 ∨ nI n ≤ v) → post (-1)) (h0 : ¬ pl = 0 → ∀ t, t < n → v = nI t → post 0) : wpX_planQueryRefusal post (nI P, cp, nI n, nI m, pl, sp, nw, hp_A W, hp_A D, hp_A EU, hp_A EV, hp_A EC, hp_A RK, hp_A OR, hp_A PR, hp_A ST, hp_A FN, hp_A BS, hp_A PF, hp_A RS, hp_A RF) v :=
  br_c h6 (fun z => x_isTask hn (fun q => br_t rfl (h1 z q)) (fun t ht q => br_f (by decide) (h0 z t ht q)))
end
end
section
/-! ===== the class: sorting ===== -/
theorem hp_d1 {a b : Nat} (ha : a < 2 ^ 31) (hb : b < 2 ^ 31) : (1 : Int32) * nI a ≤ 1 * nI b ↔ a ≤ b := by
  rw [Int32.one_mul, Int32.one_mul, nI_leI ha hb]
theorem hp_dm {a b : Nat} (ha : a < 2 ^ 31) (hb : b < 2 ^ 31) : (-1 : Int32) * nI a ≤ -1 * nI b ↔ b ≤ a := by
  rw [Int32.neg_mul, Int32.neg_mul, Int32.one_mul, Int32.one_mul, sb_nle ha hb]
section
variable {P n m : Nat} {cp pl sp nw : Int32} {W D EU EV EC RK OR PR ST FN BS PF RS RF : Nat → Nat}
theorem x_sort__order_rankOf {post : SX → Prop} {d : Int32} {G : Nat → Nat} (hn : n ≤ 16) (hc : ∀ x t, x < n → t < n → (d * nI (RK x) ≤ d * nI (RK t) ↔ ¬ G t < G x)) (h : ∀ l, hp_So n G l → (∀ j, n ≤ j → l j = OR j) → post (nI P, cp, nI n, nI m, pl, sp, nw, hp_A W, hp_A D, hp_A EU, hp_A EV, hp_A EC, hp_A RK, hp_A l, hp_A PR, hp_A ST, hp_A FN, hp_A BS, hp_A PF, hp_A RS, hp_A RF)) : wpX_sortTasks__order_rankOf post (nI P, cp, nI n, nI m, pl, sp, nw, hp_A W, hp_A D, hp_A EU, hp_A EV, hp_A EC, hp_A RK, hp_A OR, hp_A PR, hp_A ST, hp_A FN, hp_A BS, hp_A PF, hp_A RS, hp_A RF) d := by
  have inner : ∀ (t : Nat) (l0 : Nat → Nat), t < n → hp_So t G l0 → ∀ J : Int32 → (Nat → Int32) → (Nat → Int32) → (Nat → Int32) → (Nat → Int32) → (Nat → Int32) → (Nat → Int32) → (Nat → Int32) → (Nat → Int32) → (Nat → Int32) → (Nat → Int32) → (Nat → Int32) → (Nat → Int32) → (Nat → Int32) → (Nat → Int32) → Prop, (∀ l, hp_So (t + 1) G l → (∀ j, t + 1 ≤ j → l j = l0 j) → J (nI (t + 1)) (hp_A W) (hp_A D) (hp_A EU) (hp_A EV) (hp_A EC) (hp_A RK) (hp_A l) (hp_A PR) (hp_A ST) (hp_A FN) (hp_A BS) (hp_A PF) (hp_A RS) (hp_A RF)) →
      ∀ f q l, q < f → hp_In G l0 t q l → wX_sortTasks__order_rankOf_16 post J d (nI t) (nI P) cp (nI n) (nI m) pl sp nw f (nI q) (hp_A W) (hp_A D) (hp_A EU) (hp_A EV) (hp_A EC) (hp_A RK) (hp_A l) (hp_A PR) (hp_A ST) (hp_A FN) (hp_A BS) (hp_A PF) (hp_A RS) (hp_A RF) := by
    intro t l0 ht hS J hJ f
    induction f with
    | zero => intro q l h; omega
    | succ f ih =>
      intro q l hq hI
      have hqt := hI.1
      have hin : vp_in (nI q) 16 := pk_in q 16 (by omega)
      refine pk_le q 0 (fun z => ?_) (fun z => ?_)
      · obtain ⟨a, b⟩ := hp_Ine hS hI (Or.inl (by omega))
        exact ⟨hin, hp_nu (by omega) (hp_n1 (hJ _ a b))⟩
      · obtain ⟨q', rfl⟩ : ∃ q', q = q' + 1 := ⟨q - 1, by omega⟩
        have hl : l q' < t := by
          rw [hI.2.1 q' (by omega)]
          exact hS.1 q' (by omega)
        have h1 : vp_in (nI q') 16 := pk_in q' 16 (by omega)
        have h2 : vp_in (nI (l q')) 16 := pk_in (l q') 16 (by omega)
        have h3 : vp_in (nI t) 16 := pk_in t 16 (by omega)
        rw [nI_pred, hp_rd (f := l) (j := q') (by omega), hp_rd (f := RK) (j := l q') (by omega), hp_rd (f := RK) (j := t) (by omega)]
        refine ⟨h1, h2, h3, br_c (fun w => ?_) (fun w => ?_)⟩
        · rw [hc _ _ (by omega) (by omega)] at w
          obtain ⟨a, b⟩ := hp_Ine hS hI (Or.inr (by rw [Nat.add_sub_cancel]; exact w))
          exact ⟨hin, hp_nu (by omega) (hp_n1 (hJ _ a b))⟩
        · rw [hc _ _ (by omega) (by omega)] at w
          exact ⟨h1, hin, hp_nu (by omega) (nm_r (pk_m1 q') (ih q' _ (by omega) (hp_Ins hI (Classical.byContradiction w))))⟩
  have outer : ∀ f t l, t ≤ n → n - t < f → hp_So t G l → (∀ j, t ≤ j → l j = OR j) → wX_sortTasks__order_rankOf_3 post d (nI P) cp (nI n) (nI m) pl sp nw f (nI t) (hp_A W) (hp_A D) (hp_A EU) (hp_A EV) (hp_A EC) (hp_A RK) (hp_A l) (hp_A PR) (hp_A ST) (hp_A FN) (hp_A BS) (hp_A PF) (hp_A RS) (hp_A RF) := by
    intro f
    induction f with
    | zero => intro t l _ h; omega
    | succ f ih =>
      intro t l ht hf hS hl
      refine pk_le n t (fun z => ?_) (fun z => ?_)
      · have e : t = n := by omega
        subst e
        exact h l hS hl
      · exact ⟨t + 1, inner t l z hS _ (fun l' hS' hl' => ih (t + 1) l' (by omega) (by omega) hS' (fun j hj => by rw [hl' j hj]; exact hl j (by omega))) (t + 1) t l (by omega) (hp_In0 G l t)⟩
  exact ⟨n + 1, outer (n + 1) 0 OR (by omega) (by omega) (hp_so0 G OR) (fun _ _ => rfl)⟩
theorem x_sort__byStart_startOf {post : SX → Prop} {d : Int32} {G : Nat → Nat} (hn : n ≤ 16) (hc : ∀ x t, x < n → t < n → (d * nI (ST x) ≤ d * nI (ST t) ↔ ¬ G t < G x)) (h : ∀ l, hp_So n G l → (∀ j, n ≤ j → l j = BS j) → post (nI P, cp, nI n, nI m, pl, sp, nw, hp_A W, hp_A D, hp_A EU, hp_A EV, hp_A EC, hp_A RK, hp_A OR, hp_A PR, hp_A ST, hp_A FN, hp_A l, hp_A PF, hp_A RS, hp_A RF)) : wpX_sortTasks__byStart_startOf post (nI P, cp, nI n, nI m, pl, sp, nw, hp_A W, hp_A D, hp_A EU, hp_A EV, hp_A EC, hp_A RK, hp_A OR, hp_A PR, hp_A ST, hp_A FN, hp_A BS, hp_A PF, hp_A RS, hp_A RF) d := by
  have inner : ∀ (t : Nat) (l0 : Nat → Nat), t < n → hp_So t G l0 → ∀ J : Int32 → (Nat → Int32) → (Nat → Int32) → (Nat → Int32) → (Nat → Int32) → (Nat → Int32) → (Nat → Int32) → (Nat → Int32) → (Nat → Int32) → (Nat → Int32) → (Nat → Int32) → (Nat → Int32) → (Nat → Int32) → (Nat → Int32) → (Nat → Int32) → Prop, (∀ l, hp_So (t + 1) G l → (∀ j, t + 1 ≤ j → l j = l0 j) → J (nI (t + 1)) (hp_A W) (hp_A D) (hp_A EU) (hp_A EV) (hp_A EC) (hp_A RK) (hp_A OR) (hp_A PR) (hp_A ST) (hp_A FN) (hp_A l) (hp_A PF) (hp_A RS) (hp_A RF)) →
      ∀ f q l, q < f → hp_In G l0 t q l → wX_sortTasks__byStart_startOf_16 post J d (nI t) (nI P) cp (nI n) (nI m) pl sp nw f (nI q) (hp_A W) (hp_A D) (hp_A EU) (hp_A EV) (hp_A EC) (hp_A RK) (hp_A OR) (hp_A PR) (hp_A ST) (hp_A FN) (hp_A l) (hp_A PF) (hp_A RS) (hp_A RF) := by
    intro t l0 ht hS J hJ f
    induction f with
    | zero => intro q l h; omega
    | succ f ih =>
      intro q l hq hI
      have hqt := hI.1
      have hin : vp_in (nI q) 16 := pk_in q 16 (by omega)
      refine pk_le q 0 (fun z => ?_) (fun z => ?_)
      · obtain ⟨a, b⟩ := hp_Ine hS hI (Or.inl (by omega))
        exact ⟨hin, hp_nu (by omega) (hp_n1 (hJ _ a b))⟩
      · obtain ⟨q', rfl⟩ : ∃ q', q = q' + 1 := ⟨q - 1, by omega⟩
        have hl : l q' < t := by
          rw [hI.2.1 q' (by omega)]
          exact hS.1 q' (by omega)
        have h1 : vp_in (nI q') 16 := pk_in q' 16 (by omega)
        have h2 : vp_in (nI (l q')) 16 := pk_in (l q') 16 (by omega)
        have h3 : vp_in (nI t) 16 := pk_in t 16 (by omega)
        rw [nI_pred, hp_rd (f := l) (j := q') (by omega), hp_rd (f := ST) (j := l q') (by omega), hp_rd (f := ST) (j := t) (by omega)]
        refine ⟨h1, h2, h3, br_c (fun w => ?_) (fun w => ?_)⟩
        · rw [hc _ _ (by omega) (by omega)] at w
          obtain ⟨a, b⟩ := hp_Ine hS hI (Or.inr (by rw [Nat.add_sub_cancel]; exact w))
          exact ⟨hin, hp_nu (by omega) (hp_n1 (hJ _ a b))⟩
        · rw [hc _ _ (by omega) (by omega)] at w
          exact ⟨h1, hin, hp_nu (by omega) (nm_r (pk_m1 q') (ih q' _ (by omega) (hp_Ins hI (Classical.byContradiction w))))⟩
  have outer : ∀ f t l, t ≤ n → n - t < f → hp_So t G l → (∀ j, t ≤ j → l j = BS j) → wX_sortTasks__byStart_startOf_3 post d (nI P) cp (nI n) (nI m) pl sp nw f (nI t) (hp_A W) (hp_A D) (hp_A EU) (hp_A EV) (hp_A EC) (hp_A RK) (hp_A OR) (hp_A PR) (hp_A ST) (hp_A FN) (hp_A l) (hp_A PF) (hp_A RS) (hp_A RF) := by
    intro f
    induction f with
    | zero => intro t l _ h; omega
    | succ f ih =>
      intro t l ht hf hS hl
      refine pk_le n t (fun z => ?_) (fun z => ?_)
      · have e : t = n := by omega
        subst e
        exact h l hS hl
      · exact ⟨t + 1, inner t l z hS _ (fun l' hS' hl' => ih (t + 1) l' (by omega) (by omega) hS' (fun j hj => by rw [hl' j hj]; exact hl j (by omega))) (t + 1) t l (by omega) (hp_In0 G l t)⟩
  exact ⟨n + 1, outer (n + 1) 0 BS (by omega) (by omega) (hp_so0 G BS) (fun _ _ => rfl)⟩
/-! ===== the class: ranks ===== -/
theorem x_raiseRank {post : SX → Prop} {e : Nat} (G : hp_G P n m W EU EV EC) (he : e < m) (hr : hp_tc W (EU e) P + P * EC e + RK (EV e) ≤ 100000) (hu : RK (EU e) ≤ 100000)
    (h1 : RK (EU e) < hp_tc W (EU e) P + P * EC e + RK (EV e) → post (nI P, cp, nI n, nI m, pl, sp, nw, hp_A W, hp_A D, hp_A EU, hp_A EV, hp_A EC, hp_A (hp_u RK (EU e) (hp_tc W (EU e) P + P * EC e + RK (EV e))), hp_A OR, hp_A PR, hp_A ST, hp_A FN, hp_A BS, hp_A PF, hp_A RS, hp_A RF))
    (h0 : ¬ RK (EU e) < hp_tc W (EU e) P + P * EC e + RK (EV e) → post (nI P, cp, nI n, nI m, pl, sp, nw, hp_A W, hp_A D, hp_A EU, hp_A EV, hp_A EC, hp_A RK, hp_A OR, hp_A PR, hp_A ST, hp_A FN, hp_A BS, hp_A PF, hp_A RS, hp_A RF)) : wpX_raiseRank post (nI P, cp, nI n, nI m, pl, sp, nw, hp_A W, hp_A D, hp_A EU, hp_A EV, hp_A EC, hp_A RK, hp_A OR, hp_A PR, hp_A ST, hp_A FN, hp_A BS, hp_A PF, hp_A RS, hp_A RF) (nI e) := by
  obtain ⟨hP1, hP, hn, hm, hW, hE, hT⟩ := G
  obtain ⟨e1, e2, e3⟩ := hE e he
  have i32 : vp_in (nI e) 32 := pk_in e 32 (by omega)
  have u16 : vp_in (nI (EU e)) 16 := pk_in (EU e) 16 (by omega)
  have v16 : vp_in (nI (EV e)) 16 := pk_in (EV e) 16 (by omega)
  refine ⟨i32, hp_nr (by omega) (x_totalCost (by omega) hP ⟨i32, i32, ?_⟩)⟩
  rw [hp_rd (f := EV) (j := e) (by omega), hp_rd (f := EC) (j := e) (by omega), hp_rd (f := RK) (j := EV e) (by omega), pk_mul, nI_add, nI_add]
  refine ⟨v16, nm_e ⟨u16, ?_⟩⟩
  rw [hp_rd (f := RK) (j := EU e) (by omega)]
  exact pk_le (hp_tc W (EU e) P + P * EC e + RK (EV e)) (RK (EU e)) (fun z => h0 (by omega)) (fun z => ⟨u16, hp_nu (by omega) (h1 z)⟩)
theorem x_computeRanks {post : SX → Prop} {L R : Nat → Nat} (G : hp_G P n m W EU EV EC) (H : hp_Rk P n m W EU EV EC L R) (h : ∀ r, hp_XK P n m W EU EV EC L R RK n r → post (nI P, cp, nI n, nI m, pl, sp, nw, hp_A W, hp_A D, hp_A EU, hp_A EV, hp_A EC, hp_A r, hp_A OR, hp_A PR, hp_A ST, hp_A FN, hp_A BS, hp_A PF, hp_A RS, hp_A RF)) : wpX_computeRanks post (nI P, cp, nI n, nI m, pl, sp, nw, hp_A W, hp_A D, hp_A EU, hp_A EV, hp_A EC, hp_A RK, hp_A OR, hp_A PR, hp_A ST, hp_A FN, hp_A BS, hp_A PF, hp_A RS, hp_A RF) := by
  have G' := G
  obtain ⟨hP1, hP, hn, hm, hW, hE, hT⟩ := G'
  have hRb := H.2.2.2
  have inner : ∀ (k : Nat) (J : Int32 → Int32 → Int32 → Int32 → Int32 → Int32 → Int32 → Int32 → (Nat → Int32) → (Nat → Int32) → (Nat → Int32) → (Nat → Int32) → (Nat → Int32) → (Nat → Int32) → (Nat → Int32) → (Nat → Int32) → (Nat → Int32) → (Nat → Int32) → (Nat → Int32) → (Nat → Int32) → (Nat → Int32) → (Nat → Int32) → Prop), (∀ r, hp_XE P n m W EU EV EC L R RK k m r → J (nI (k + 1)) (nI P) cp (nI n) (nI m) pl sp nw (hp_A W) (hp_A D) (hp_A EU) (hp_A EV) (hp_A EC) (hp_A r) (hp_A OR) (hp_A PR) (hp_A ST) (hp_A FN) (hp_A BS) (hp_A PF) (hp_A RS) (hp_A RF)) → ∀ f i r, i ≤ m → m - i < f → hp_XE P n m W EU EV EC L R RK k i r → wX_computeRanks_39 post J (nI k) f (nI i) (nI P) cp (nI n) (nI m) pl sp nw (hp_A W) (hp_A D) (hp_A EU) (hp_A EV) (hp_A EC) (hp_A r) (hp_A OR) (hp_A PR) (hp_A ST) (hp_A FN) (hp_A BS) (hp_A PF) (hp_A RS) (hp_A RF) := by
    intro k J hJ f
    induction f with
    | zero => intro i r _ h; omega
    | succ f ih =>
      intro i r hi hf hI
      refine pk_le m i (fun z => ?_) (fun z => ?_)
      · have e : i = m := by omega
        rw [e] at hI
        exact hp_n1 (hJ r hI)
      · obtain ⟨e1, e2, e3⟩ := hE i z
        obtain ⟨q1, q2, q3⟩ := hp_XEs H e1 e2 z hI
        have q4 := hRb _ e1
        have q5 := (hI.1.1 _ e1).2
        refine x_raiseRank G z (by omega) (by omega) (fun w => ?_) (fun w => ?_)
        · exact hp_n1 (ih (i + 1) _ (by omega) (by omega) (q2 w))
        · exact hp_n1 (ih (i + 1) _ (by omega) (by omega) (q3 w))
  have outer : ∀ f k r, k ≤ n → n - k < f → hp_XK P n m W EU EV EC L R RK k r → wX_computeRanks_29 post f (nI k) (nI P) cp (nI n) (nI m) pl sp nw (hp_A W) (hp_A D) (hp_A EU) (hp_A EV) (hp_A EC) (hp_A r) (hp_A OR) (hp_A PR) (hp_A ST) (hp_A FN) (hp_A BS) (hp_A PF) (hp_A RS) (hp_A RF) := by
    intro f
    induction f with
    | zero => intro k r _ h; omega
    | succ f ih =>
      intro k r hk hf hK
      refine pk_le n k (fun z => ?_) (fun z => ?_)
      · have e : k = n := by omega
        rw [e] at hK
        exact h r hK
      · exact ⟨m + 1, inner k _ (fun r' hE' => ih (k + 1) r' (by omega) (by omega) (hp_XEe H hE')) (m + 1) 0 r (by omega) (by omega) ⟨hK, fun e he => by omega⟩⟩
  have init : ∀ f t r, t ≤ n → n - t < f → (∀ j, j < t → r j = hp_tc W j P) → (∀ j, n ≤ j → r j = RK j) → wX_computeRanks_2 post (nI P) cp (nI n) (nI m) pl sp nw f (nI t) (hp_A W) (hp_A D) (hp_A EU) (hp_A EV) (hp_A EC) (hp_A r) (hp_A OR) (hp_A PR) (hp_A ST) (hp_A FN) (hp_A BS) (hp_A PF) (hp_A RS) (hp_A RF) := by
    intro f
    induction f with
    | zero => intro t r _ h; omega
    | succ f ih =>
      intro t r ht hf h1 h2
      refine pk_le n t (fun z => ?_) (fun z => ?_)
      · have e : t = n := by omega
        rw [e] at h1
        exact ⟨n + 1, outer (n + 1) 0 r (by omega) (by omega) (hp_XK0 H h1 h2)⟩
      · refine x_totalCost (by omega) hP ⟨pk_in t 16 (by omega), hp_nu (by omega) (hp_n1 (ih (t + 1) _ (by omega) (by omega) (fun j hj => ?_) (fun j hj => ?_)))⟩
        · by_cases e : j = t
          · subst e; rw [hp_us]
          · rw [hp_un e]; exact h1 j (by omega)
        · rw [hp_un (by omega)]; exact h2 j hj
  exact ⟨n + 1, init (n + 1) 0 RK (by omega) (by omega) (fun j hj => by omega) (fun _ _ => rfl)⟩
end
end
section
section
variable {P n m : Nat} {cp pl sp nw : Int32} {W D EU EV EC RK OR PR ST FN BS PF RS RF : Nat → Nat}
/-! ===== the class: placing ===== -/
theorem x_earliestStart {post : Int32 → Prop} {t p i : Nat} (hm : m ≤ 32) (ht : t < 16) (hp : p < 4) (hi : i ≤ 16) (hd : W (t * 4 + p) ≤ 100) (hE : ∀ e, e < m → EU e < 16 ∧ EV e < 16 ∧ EC e ≤ 100) (hF : ∀ e, e < m → EV e = t → FN (EU e) ≤ 10000 ∧ PR (EU e) < 4)
    (ha : ∀ j, j < i → OR j < 16 ∧ PR (OR j) < 4 ∧ ST (OR j) ≤ 10000 ∧ FN (OR j) ≤ 10000)
    (h : ∀ s, hp_Le OR PR ST FN i p (W (t * 4 + p)) (hp_mx EV t (hp_ar EU EC PR FN p) 0 m) s → post (nI s)) : wpX_earliestStart post (nI P, cp, nI n, nI m, pl, sp, nw, hp_A W, hp_A D, hp_A EU, hp_A EV, hp_A EC, hp_A RK, hp_A OR, hp_A PR, hp_A ST, hp_A FN, hp_A BS, hp_A PF, hp_A RS, hp_A RF) (nI t) (nI p) (nI i) := by
  have hrb : hp_mx EV t (hp_ar EU EC PR FN p) 0 m ≤ 20000 := hp_mxL (by omega) m (fun e he q => by
    have a := (hF e he q).1
    have b := (hE e he).2.2
    unfold hp_ar
    split <;> omega)
  have hF' : ∀ e, e < m → EV e = t → FN (EU e) ≤ 100000 ∧ PR (EU e) < 4 := fun e he q => ⟨by have := (hF e he q).1; omega, (hF e he q).2⟩
  unfold wpX_earliestStart
  refine x_costOn ht hp ?_
  refine x_dataReady__finishOf hm ht hp hE hF' ?_
  generalize hp_mx EV t (hp_ar EU EC PR FN p) 0 m = ready at h hrb ⊢
  generalize W (t * 4 + p) = d at h hd ⊢
  have top : ∀ s, (∀ s', ready ≤ s' → hp_Fr OR PR ST FN i p d s' → s ≤ s') → s ≤ 20000 := fun s hs => hs 20000 hrb (fun j hj _ q => by have := (ha j hj).2.2.2; omega)
  have inner : ∀ (s0 k : Nat) (J : Int32 → Int32 → Prop), (∀ s, hp_EI OR PR ST FN i p d ready s0 i s → J (nI s) (nI (k + 1))) → ∀ f q s, q ≤ i → i - q < f → hp_EI OR PR ST FN i p d ready s0 q s → wX_earliestStart_32 post J (nI p) (nI i) (nI d) (nI k) (nI P) cp (nI n) (nI m) pl sp nw (hp_A W) (hp_A D) (hp_A EU) (hp_A EV) (hp_A EC) (hp_A RK) (hp_A OR) (hp_A PR) (hp_A ST) (hp_A FN) (hp_A BS) (hp_A PF) (hp_A RS) (hp_A RF) f (nI s) (nI q) := by
    intro s0 k J hJ f
    induction f with
    | zero => intro q s _ h; omega
    | succ f ih =>
      intro q s hq hf hI
      have hs := top s hI.2.1
      refine pk_le i q (fun z => ?_) (fun z => ?_)
      · have e : q = i := by omega
        rw [e] at hI
        exact hp_n1 (hJ s hI)
      · obtain ⟨a1, a2, a3, a4⟩ := ha q z
        have h1 : vp_in (nI q) 16 := pk_in q 16 (by omega)
        have h2 : vp_in (nI (OR q)) 16 := pk_in (OR q) 16 (by omega)
        have skip : ¬ (PR (OR q) = p ∧ ST (OR q) < s + d ∧ s < FN (OR q)) → wX_earliestStart_32 post J (nI p) (nI i) (nI d) (nI k) (nI P) cp (nI n) (nI m) pl sp nw (hp_A W) (hp_A D) (hp_A EU) (hp_A EV) (hp_A EC) (hp_A RK) (hp_A OR) (hp_A PR) (hp_A ST) (hp_A FN) (hp_A BS) (hp_A PF) (hp_A RS) (hp_A RF) f (nI s) (nI (q + 1)) := fun w => ih (q + 1) s (by omega) (by omega) (hp_EIn hI w)
        refine ⟨h1, hp_nr (by omega) ⟨h2, pk_eq (PR (OR q)) p (fun b => ⟨h2, ?_⟩) (fun b => hp_n1 (skip fun w => b w.1)) (hx := hp_rd (by omega))⟩⟩
        rw [nI_add, hp_rd (f := ST) (j := OR q) (by omega), hp_rd (f := FN) (j := OR q) (by omega)]
        refine pk_le (s + d) (ST (OR q)) (fun c => hp_n1 (skip fun w => by omega)) (fun c => ⟨h2, pk_le (FN (OR q)) s (fun c2 => hp_n1 (skip fun w => by omega)) (fun c2 => ⟨h2, nm_e (hp_n1 (ih (q + 1) _ (by omega) (by omega) (hp_EIs z hI b c c2)))⟩)⟩)
  have outer : ∀ f k s, k ≤ i → i - k < f → hp_EK OR PR ST FN i p d ready k s → wX_earliestStart_23 post (nI p) (nI i) (nI d) (nI P) cp (nI n) (nI m) pl sp nw (hp_A W) (hp_A D) (hp_A EU) (hp_A EV) (hp_A EC) (hp_A RK) (hp_A OR) (hp_A PR) (hp_A ST) (hp_A FN) (hp_A BS) (hp_A PF) (hp_A RS) (hp_A RF) f (nI s) (nI k) := by
    intro f
    induction f with
    | zero => intro k s _ h; omega
    | succ f ih =>
      intro k s hk hf hK
      refine pk_le i k (fun z => ?_) (fun z => ?_)
      · have e : k = i := by omega
        rw [e] at hK
        exact h s (hp_EKe hK)
      · exact ⟨i + 1, inner s k _ (fun s' hI => ih (k + 1) s' (by omega) (by omega) (hp_EIe hK hI)) (i + 1) 0 s (by omega) (by omega) (hp_EI0 hK)⟩
  exact ⟨i + 1, outer (i + 1) 0 ready (by omega) (by omega) hp_EK0⟩
theorem x_placeTask {post : SX → Prop} {i mk : Nat} {GG : Nat → Nat} (G : hp_G P n m W EU EV EC) (S : hp_So n GG OR) (hB : hp_Bf n m EU EV OR) (hi : i < n) (K : hp_PK P m W EU EV OR i PR ST FN mk)
    (h : post (nI P, cp, nI n, nI m, pl, sp, nw, hp_A W, hp_A D, hp_A EU, hp_A EV, hp_A EC, hp_A RK, hp_A OR, hp_A ((hp_nx P m W EU EV EC OR i (PR, ST, FN, mk)).1), hp_A ((hp_nx P m W EU EV EC OR i (PR, ST, FN, mk)).2.1), hp_A ((hp_nx P m W EU EV EC OR i (PR, ST, FN, mk)).2.2.1), hp_A BS, hp_A PF, hp_A RS, hp_A RF)) : wpX_placeTask post (nI P, cp, nI n, nI m, pl, sp, nw, hp_A W, hp_A D, hp_A EU, hp_A EV, hp_A EC, hp_A RK, hp_A OR, hp_A PR, hp_A ST, hp_A FN, hp_A BS, hp_A PF, hp_A RS, hp_A RF) (nI i) := by
  have G' := G
  obtain ⟨hP1, hP, hn, hm, hW, hE, hT⟩ := G'
  have hti := S.1 i hi
  have E : ∀ (p : Nat) (post : Int32 → Prop), p < P → post (nI (hp_es m W EU EV EC OR PR ST FN i p)) → wpX_earliestStart post (nI P, cp, nI n, nI m, pl, sp, nw, hp_A W, hp_A D, hp_A EU, hp_A EV, hp_A EC, hp_A RK, hp_A OR, hp_A PR, hp_A ST, hp_A FN, hp_A BS, hp_A PF, hp_A RS, hp_A RF) (nI (OR i)) (nI p) (nI i) := by
    intro p post hp hq
    refine x_earliestStart hm (by omega) (by omega) (by omega) (hW _ _ hti hp).2 (fun e he => ⟨by have := (hE e he).1; omega, by have := (hE e he).2.1; omega, (hE e he).2.2⟩) (fun e he q => ?_) (fun j hj => ?_) (fun s hs => ?_)
    · obtain ⟨k, hk, w⟩ := hB e i he hi q
      have := K.1 k hk
      rw [w] at this
      exact ⟨by omega, by omega⟩
    · have a := K.1 j hj
      have b := S.1 j (by omega)
      exact ⟨by omega, by omega, by omega, by omega⟩
    · rw [hp_LeU hs (hp_esL K p)]
      exact hq
  have bd : ∀ p, p < P → hp_es m W EU EV EC OR PR ST FN i p ≤ 3300 ∧ hp_fs m W EU EV EC OR PR ST FN i p ≤ 3400 := by
    intro p hp
    have a := hp_esB (fun e he => (hE e he).2.2) hB hi K p
    have b := (hW _ _ hti hp).2
    unfold hp_fs
    omega
  have h16 : vp_in (nI (OR i)) 16 := pk_in (OR i) 16 (by omega)
  have loop : ∀ f p, 0 < p → p ≤ P → P - p < f → wX_placeTask_32 post (nI i) (nI (OR i)) (nI P) cp (nI n) (nI m) pl sp nw (hp_A W) (hp_A D) (hp_A EU) (hp_A EV) (hp_A EC) (hp_A RK) (hp_A OR) (hp_A PR) (hp_A ST) (hp_A FN) (hp_A BS) (hp_A PF) (hp_A RS) (hp_A RF) f (nI (hp_bp (hp_fs m W EU EV EC OR PR ST FN i) p)) (nI (hp_es m W EU EV EC OR PR ST FN i (hp_bp (hp_fs m W EU EV EC OR PR ST FN i) p))) (nI (hp_fs m W EU EV EC OR PR ST FN i (hp_bp (hp_fs m W EU EV EC OR PR ST FN i) p))) (nI p) := by
    intro f
    induction f with
    | zero => intro p _ _ h; omega
    | succ f ih =>
      intro p h0 hp hf
      have hbp := hp_bpL (hp_fs m W EU EV EC OR PR ST FN i) p h0
      have b1 := (bd (hp_bp (hp_fs m W EU EV EC OR PR ST FN i) p) (by omega)).2
      refine pk_le P p (fun z => ?_) (fun z => ?_)
      · have e : p = P := by omega
        subst e
        exact ⟨h16, hp_nu (by omega) ⟨h16, hp_nu (by omega) ⟨h16, hp_nu (by omega) h⟩⟩⟩
      · refine E p _ z (x_costOn (by omega) (by omega) (nm_r (nI_add _ _) ?_))
        have b2 := (bd p z).2
        have nx := ih (p + 1) (by omega) (by omega) (by omega)
        refine pk_le (hp_fs m W EU EV EC OR PR ST FN i (hp_bp (hp_fs m W EU EV EC OR PR ST FN i) p)) (hp_fs m W EU EV EC OR PR ST FN i p) (fun w => hp_n1 ?_) (fun w => hp_n1 ?_)
        · have e : hp_bp (hp_fs m W EU EV EC OR PR ST FN i) (p + 1) = hp_bp (hp_fs m W EU EV EC OR PR ST FN i) p := by
            rw [hp_bp, if_neg (by omega)]
          rw [e] at nx
          exact nx
        · have e : hp_bp (hp_fs m W EU EV EC OR PR ST FN i) (p + 1) = p := by
            rw [hp_bp, if_pos w]
          rw [e] at nx
          exact nx
  refine ⟨pk_in i 16 (by omega), hp_nr (by omega) (E 0 _ (by omega) (x_costOn (p := 0) (by omega) (by omega) (nm_r (nI_add _ _) ⟨P + 1, ?_⟩)))⟩
  have := loop (P + 1) 1 (by omega) (by omega) (by omega)
  rw [hp_bp1] at this
  exact this
theorem x_placeTasks {post : SX → Prop} {GG : Nat → Nat} (G : hp_G P n m W EU EV EC) (S : hp_So n GG OR) (hB : hp_Bf n m EU EV OR)
    (h : post (nI P, cp, nI n, nI m, pl, nI (hp_Z P m W EU EV EC OR PR ST FN n).2.2.2, nw, hp_A W, hp_A D, hp_A EU, hp_A EV, hp_A EC, hp_A RK, hp_A OR, hp_A ((hp_Z P m W EU EV EC OR PR ST FN n).1), hp_A ((hp_Z P m W EU EV EC OR PR ST FN n).2.1), hp_A ((hp_Z P m W EU EV EC OR PR ST FN n).2.2.1), hp_A BS, hp_A PF, hp_A RS, hp_A RF)) : wpX_placeTasks post (nI P, cp, nI n, nI m, pl, sp, nw, hp_A W, hp_A D, hp_A EU, hp_A EV, hp_A EC, hp_A RK, hp_A OR, hp_A PR, hp_A ST, hp_A FN, hp_A BS, hp_A PF, hp_A RS, hp_A RF) := by
  have hn := G.2.2.1
  have loop : ∀ f i PR' ST' FN' mk, i ≤ n → n - i < f → hp_Z P m W EU EV EC OR PR ST FN i = (PR', ST', FN', mk) → wX_placeTasks_7 post f (nI i) (nI P) cp (nI n) (nI m) pl (nI mk) nw (hp_A W) (hp_A D) (hp_A EU) (hp_A EV) (hp_A EC) (hp_A RK) (hp_A OR) (hp_A PR') (hp_A ST') (hp_A FN') (hp_A BS) (hp_A PF) (hp_A RS) (hp_A RF) := by
    intro f
    induction f with
    | zero => intro i PR' ST' FN' mk _ h; omega
    | succ f ih =>
      intro i PR' ST' FN' mk hi hf hZ
      have K : hp_PK P m W EU EV OR i PR' ST' FN' mk := by
        have q := hp_ZK (PR := PR) (ST := ST) (FN := FN) G S hB i hi
        rw [hZ] at q
        exact q
      refine pk_le n i (fun z => ?_) (fun z => ?_)
      · have e : i = n := by omega
        rw [e] at hZ
        rw [hZ] at h
        exact h
      · obtain ⟨k1, k2, k3⟩ := hp_nxK G S hB z K
        have hti := S.1 i z
        have k4 := K.2.2.2
        refine x_placeTask G S hB z K ?_
        have Z1 : hp_Z P m W EU EV EC OR PR ST FN (i + 1) = hp_nx P m W EU EV EC OR i (PR', ST', FN', mk) := by
          rw [hp_Z, hZ]
        refine ⟨pk_in i 16 (by omega), ?_⟩
        rw [hp_rd (f := OR) (j := i) (by omega), hp_rd (j := OR i) (by omega)]
        refine ⟨pk_in (OR i) 16 (by omega), nm_e ?_⟩
        have fe : (hp_nx P m W EU EV EC OR i (PR', ST', FN', mk)).2.2.1 (OR i) = hp_fs m W EU EV EC OR PR' ST' FN' i (hp_zb P m W EU EV EC OR PR' ST' FN' i) := hp_us
        rw [fe]
        refine pk_le (hp_fs m W EU EV EC OR PR' ST' FN' i (hp_zb P m W EU EV EC OR PR' ST' FN' i)) mk (fun w => hp_n1 ?_) (fun w => hp_n1 ?_)
        · refine ih (i + 1) _ _ _ mk (by omega) (by omega) ?_
          rw [Z1]
          unfold hp_nx
          rw [if_neg (show ¬ mk < hp_fs m W EU EV EC OR PR' ST' FN' i (hp_zb P m W EU EV EC OR PR' ST' FN' i) by omega)]
        · refine ih (i + 1) _ _ _ (hp_fs m W EU EV EC OR PR' ST' FN' i (hp_zb P m W EU EV EC OR PR' ST' FN' i)) (by omega) (by omega) ?_
          rw [Z1]
          unfold hp_nx
          rw [if_pos (show mk < hp_fs m W EU EV EC OR PR' ST' FN' i (hp_zb P m W EU EV EC OR PR' ST' FN' i) from w)]
  exact ⟨n + 1, loop (n + 1) 0 PR ST FN 0 (by omega) (by omega) rfl⟩
end
end
section
section
variable {P n m : Nat} {cp pl sp nw : Int32} {W D EU EV EC RK OR PR ST FN BS PF RS RF : Nat → Nat}
/-! ===== the class: the replay, the plan, the count ===== -/
theorem x_computeReplay {post : SX → Prop} (G : hp_G P n m W EU EV EC) (L : hp_Pl P n m W EU EV PR ST FN) (S : hp_So n ST BS) (hD : ∀ t, t < n → D t ≤ 100)
    (h : ∀ PF' RS' RF', hp_Rp n m W D EU EV EC PR ST RS' RF' → post (nI P, cp, nI n, nI m, pl, sp, nw, hp_A W, hp_A D, hp_A EU, hp_A EV, hp_A EC, hp_A RK, hp_A OR, hp_A PR, hp_A ST, hp_A FN, hp_A BS, hp_A PF', hp_A RS', hp_A RF')) : wpX_computeReplay post (nI P, cp, nI n, nI m, pl, sp, nw, hp_A W, hp_A D, hp_A EU, hp_A EV, hp_A EC, hp_A RK, hp_A OR, hp_A PR, hp_A ST, hp_A FN, hp_A BS, hp_A PF, hp_A RS, hp_A RF) := by
  have G' := G
  obtain ⟨hP1, hP, hn, hm, hW, hE, hT⟩ := G'
  have loop : ∀ f i PF' RS' RF', i ≤ n → n - i < f → hp_XR P n m W D EU EV EC PR ST BS i PF' RS' RF' → wX_computeReplay_25 post (nI P) cp (nI n) (nI m) pl sp nw f (nI i) (hp_A W) (hp_A D) (hp_A EU) (hp_A EV) (hp_A EC) (hp_A RK) (hp_A OR) (hp_A PR) (hp_A ST) (hp_A FN) (hp_A BS) (hp_A PF') (hp_A RS') (hp_A RF') := by
    intro f
    induction f with
    | zero => intro i PF' RS' RF' _ h; omega
    | succ f ih =>
      intro i PF' RS' RF' hi hf hI
      refine pk_le n i (fun z => ?_) (fun z => ?_)
      · have e : i = n := by omega
        rw [e] at hI
        exact h PF' RS' RF' (hp_XRe hn S hI)
      · have hb := S.1 i z
        obtain ⟨l1, l2, l3⟩ := L.1 _ hb
        obtain ⟨b1, b2⟩ := hp_XRb G L S z hI
        have hi16 : vp_in (nI i) 16 := pk_in i 16 (by omega)
        have hb16 : vp_in (nI (BS i)) 16 := pk_in (BS i) 16 (by omega)
        have hp4 : vp_in (nI (PR (BS i))) 4 := pk_in (PR (BS i)) 4 (by omega)
        have J : ∀ s, s = hp_mx EV (BS i) (hp_ar EU EC PR RF' (PR (BS i))) (PF' (PR (BS i))) m → wX_computeReplay_81 post (wX_computeReplay_25 post (nI P) cp (nI n) (nI m) pl sp nw f) (nI i) (nI (BS i)) (nI (PR (BS i))) (nI s) (nI P) cp (nI n) (nI m) pl sp nw (hp_A W) (hp_A D) (hp_A EU) (hp_A EV) (hp_A EC) (hp_A RK) (hp_A OR) (hp_A PR) (hp_A ST) (hp_A FN) (hp_A BS) (hp_A PF') (hp_A RS') (hp_A RF') := by
          intro s hs
          obtain ⟨q1, q2⟩ := hp_XRs G L S hD z hI hs
          refine x_costOn (by omega) (by omega) ⟨hb16, ?_⟩
          rw [hp_rd (f := D) (j := BS i) (by omega), nI_add, nI_add]
          exact nm_e ⟨hb16, hp_nu (by omega) ⟨hb16, hp_nu (by omega) ⟨hp4, hp_nu (by omega) (hp_n1 (ih (i + 1) _ _ _ (by omega) (by omega) q2))⟩⟩⟩
        have rb : hp_mx EV (BS i) (hp_ar EU EC PR RF' (PR (BS i))) 0 m ≤ 10000 := hp_mxL (by omega) m (fun e he q => by
          have a := b1 e he q
          have b := (hE e he).2.2
          unfold hp_ar
          split <;> omega)
        refine ⟨hi16, hp_nr (by omega) ⟨hb16, hp_nr (by omega) (x_dataReady__replayedFinish hm (by omega) (by omega) (fun e he => ⟨by have := (hE e he).1; omega, by have := (hE e he).2.1; omega, (hE e he).2.2⟩) (fun e he q => ⟨by have := b1 e he q; omega, by have := (L.1 _ (hE e he).1).1; omega⟩) ⟨hp4, ?_⟩)⟩⟩
        rw [hp_rd (f := PF') (j := PR (BS i)) (by omega)]
        have mz := hp_mxZ (K := EV) (t := BS i) (g := hp_ar EU EC PR RF' (PR (BS i))) (b := PF' (PR (BS i))) m
        refine pk_le (PF' (PR (BS i))) (hp_mx EV (BS i) (hp_ar EU EC PR RF' (PR (BS i))) 0 m) (fun w => J _ ?_) (fun w => ⟨hp4, J _ ?_⟩)
        · rw [mz, if_neg (by omega)]
        · rw [mz, if_pos w]
  have init : ∀ f p PF', p ≤ P → P - p < f → (∀ q, q < p → PF' q = 0) → wX_computeReplay_2 post (nI P) cp (nI n) (nI m) pl sp nw f (nI p) (hp_A W) (hp_A D) (hp_A EU) (hp_A EV) (hp_A EC) (hp_A RK) (hp_A OR) (hp_A PR) (hp_A ST) (hp_A FN) (hp_A BS) (hp_A PF') (hp_A RS) (hp_A RF) := by
    intro f
    induction f with
    | zero => intro p PF' _ h; omega
    | succ f ih =>
      intro p PF' hp hf hI
      refine pk_le P p (fun z => ?_) (fun z => ?_)
      · have e : p = P := by omega
        rw [e] at hI
        exact ⟨n + 1, loop (n + 1) 0 PF' RS RF (by omega) (by omega) (hp_XR0 hI)⟩
      · refine ⟨pk_in p 4 (by omega), hp_nu (v := 0) (by omega) (hp_n1 (ih (p + 1) _ (by omega) (by omega) (fun q hq => ?_)))⟩
        by_cases e : q = p
        · subst e; rw [hp_us]
        · rw [hp_un e]; exact hI q (by omega)
  exact ⟨P + 1, init (P + 1) 0 PF (by omega) (by omega) (fun q hq => by omega)⟩
theorem x_plan {post : Int32 → SX → Prop} {L R : Nat → Nat} (G : hp_G P n m W EU EV EC) (hD : ∀ t, t < n → D t ≤ 100) (H : hp_Rk P n m W EU EV EC L R) (hn0 : 0 < n)
    (h : ∀ r a BS' PF' RS' RF', hp_XK P n m W EU EV EC L R RK n r → hp_So n (fun x => 20000 - r x) a → (∀ j, n ≤ j → a j = OR j) → hp_Bf n m EU EV a →
      hp_So n (hp_Z P m W EU EV EC a PR ST FN n).2.1 BS' →
      hp_Rp n m W D EU EV EC (hp_Z P m W EU EV EC a PR ST FN n).1 (hp_Z P m W EU EV EC a PR ST FN n).2.1 RS' RF' →
      post (nI (hp_Z P m W EU EV EC a PR ST FN n).2.2.2) (nI P, cp, nI n, nI m, 1, nI (hp_Z P m W EU EV EC a PR ST FN n).2.2.2, 0, hp_A W, hp_A D, hp_A EU, hp_A EV, hp_A EC, hp_A r, hp_A a, hp_A ((hp_Z P m W EU EV EC a PR ST FN n).1), hp_A ((hp_Z P m W EU EV EC a PR ST FN n).2.1), hp_A ((hp_Z P m W EU EV EC a PR ST FN n).2.2.1), hp_A BS', hp_A PF', hp_A RS', hp_A RF')) :
    wpX_plan post (nI P, cp, nI n, nI m, pl, sp, nw, hp_A W, hp_A D, hp_A EU, hp_A EV, hp_A EC, hp_A RK, hp_A OR, hp_A PR, hp_A ST, hp_A FN, hp_A BS, hp_A PF, hp_A RS, hp_A RF) := by
  have G' := G
  obtain ⟨hP1, hP, hn, hm, hW, hE, hT⟩ := G'
  refine br_f (nI_ne0 hn0 (by omega)) (x_computeRanks G H (fun r hr => ?_))
  have hrR : ∀ x, x < n → r x = R x ∧ r x ≤ 12800 := fun x hx => by
    have a := hr.2.1 x hx (by omega)
    have b := H.2.2.2 x hx
    exact ⟨a, by omega⟩
  refine x_sort__order_rankOf (G := fun x => 20000 - r x) hn (fun x t hx ht => ?_) (fun a hS ha => ?_)
  · have a1 := (hrR x hx).2
    have a2 := (hrR t ht).2
    rw [hp_dm (by omega) (by omega)]
    show r t ≤ r x ↔ ¬ (20000 - r t < 20000 - r x)
    omega
  · have hB : hp_Bf n m EU EV a := hp_BfR hS (fun e he => (hE e he).1) (fun e he => by
      have d := hp_rkD G H he
      have a1 := hrR _ (hE e he).1
      have a2 := hrR _ (hE e he).2.1
      show 20000 - r (EU e) < 20000 - r (EV e)
      omega)
    have K := hp_ZK (PR := PR) (ST := ST) (FN := FN) G hS hB n (Nat.le_refl _)
    have hL := hp_PKe G hS K
    refine x_placeTasks G hS hB (x_sort__byStart_startOf (G := (hp_Z P m W EU EV EC a PR ST FN n).2.1) hn (fun x t hx ht => ?_) (fun b hb _ => ?_))
    · have a1 := hL.1 x hx
      have a2 := hL.1 t ht
      rw [hp_d1 (by omega) (by omega)]
      omega
    · exact x_computeReplay G hL hb hD (fun PF' RS' RF' hp => h r a b PF' RS' RF' hr hS ha hB hb hp)
theorem x_finishedCount {post : Int32 → Prop} {c : Nat} (hn : n ≤ 16) (hc : c < 2 ^ 31) (hF : ∀ t, t < n → RF t ≤ 4800) (h : post (nI (hp_ct RF c n))) : wpX_finishedCount post (nI P, cp, nI n, nI m, pl, sp, nI c, hp_A W, hp_A D, hp_A EU, hp_A EV, hp_A EC, hp_A RK, hp_A OR, hp_A PR, hp_A ST, hp_A FN, hp_A BS, hp_A PF, hp_A RS, hp_A RF) := by
  have key : ∀ f t, t ≤ n → n - t < f → wX_finishedCount_4 post (nI P) cp (nI n) (nI m) pl sp (nI c) (hp_A W) (hp_A D) (hp_A EU) (hp_A EV) (hp_A EC) (hp_A RK) (hp_A OR) (hp_A PR) (hp_A ST) (hp_A FN) (hp_A BS) (hp_A PF) (hp_A RS) (hp_A RF) f (nI (hp_ct RF c t)) (nI t) := by
    intro f
    induction f with
    | zero => intro t _ h; omega
    | succ f ih =>
      intro t ht hf
      refine pk_le n t (fun z => ?_) (fun z => ?_)
      · have e : t = n := by omega
        rw [e]
        exact h
      · have b := hF t z
        have nx := ih (t + 1) (by omega) (by omega)
        refine ⟨pk_in t 16 (by omega), pk_lt c (RF t) (fun w => hp_n1 ?_) (fun w => hp_n1 (hp_n1 ?_)) (hy := hp_rd (by omega))⟩
        · rw [hp_ct, if_neg (by omega)] at nx
          exact nx
        · rw [hp_ct, if_pos w] at nx
          exact nx
  exact ⟨n + 1, key (n + 1) 0 (by omega) (by omega)⟩
end
end
section
/-! ===== the reference: readers ===== -/
theorem hp_nb1 : vp_nar .boolean 1 = nI 1 := by decide
theorem hp_nb0 : vp_nar .boolean 0 = nI 0 := by decide
theorem hp_nuB1 {f : Nat → Nat} {j : Nat} {Q : (Nat → Int32) → Prop} (h : j < 2 ^ 31) (q : Q (hp_A (hp_u f j 1))) : ∀ a, a = upd (hp_A f) (nI j).toNatClampNeg (vp_nar .boolean 1) → Q a :=
  nm_r (by rw [nI_clamp h, hp_nb1, hp_uA]) q
theorem hp_nuB0 {f : Nat → Nat} {j : Nat} {Q : (Nat → Int32) → Prop} (h : j < 2 ^ 31) (q : Q (hp_A (hp_u f j 0))) : ∀ a, a = upd (hp_A f) (nI j).toNatClampNeg (vp_nar .boolean 0) → Q a :=
  nm_r (by rw [nI_clamp h, hp_nb0, hp_uA]) q
/-- a cell that is 0 or 1 -/
theorem hp_z {f : Nat → Nat} {j : Nat} {U A B : Prop} (h : j < 2 ^ 31) (h1 : f j ≤ 1) (hU : f j = 1 ↔ U) (a : ¬ U → A) (b : U → B) : (hp_A f (nI j).toNatClampNeg = 0 → A) ∧ (¬ hp_A f (nI j).toNatClampNeg = 0 → B) :=
  pk_eq (f j) 0 (fun z => a (fun u => by have := hU.mpr u; omega)) (fun z => b (hU.mp (by omega))) (hx := hp_rd h)
theorem hp_m1n : (-1 : Int32) < 0 := by decide
section
variable {P n m : Nat} {cp pl ck mk : Int32} {W D EU EV EC RK OR PR ST FN rs rf us pc rc : Nat → Nat}
theorem y_bad {post : Int32 → Prop} {v : Int32} (h1 : v < 1 ∨ 100 < v → post 1) (h0 : ¬ v < 1 → ¬ 100 < v → post 0) : wpY_bad post (nI P, cp, nI n, nI m, pl, ck, mk, hp_A W, hp_A D, hp_A EU, hp_A EV, hp_A EC, hp_A RK, hp_A OR, hp_A PR, hp_A ST, hp_A FN, hp_A rs, hp_A rf, hp_A us, hp_A pc, hp_A rc) v :=
  br_c (fun z => h1 (Or.inl z)) (fun z => br_c (fun y => h0 z (Int32.not_lt.mpr y)) (fun y => h1 (Or.inr (Int32.not_le.mp y))))
theorem y_rankOnce {post : Int32 → Prop} {t : Nat} (G : hp_G P n m W EU EV EC) (ht : t < n) (hR : ∀ j, j < n → RK j ≤ 20000) (h : post (nI (hp_F P m W EU EV EC RK t))) : wpY_rankOnce post (nI P, cp, nI n, nI m, pl, ck, mk, hp_A W, hp_A D, hp_A EU, hp_A EV, hp_A EC, hp_A RK, hp_A OR, hp_A PR, hp_A ST, hp_A FN, hp_A rs, hp_A rf, hp_A us, hp_A pc, hp_A rc) (nI t) := by
  obtain ⟨hP1, hP, hn, hm, hW, hE, hT⟩ := G
  have bnd : ∀ i, i ≤ m → hp_mx EU t (fun e => P * EC e + RK (EV e)) 0 i ≤ 30000 := fun i hi => hp_mxL (by omega) i (fun e he q => by
    have a := hR _ (hE e (by omega)).2.1
    have b := hp_Pm hP (hE e (by omega)).2.2
    show P * EC e + RK (EV e) ≤ 30000
    omega)
  have k2 : ∀ f i, i ≤ m → m - i < f → wY_rankOnce_36 post (nI t) (nI (hp_tc W t P)) (nI P) cp (nI n) (nI m) pl ck mk (hp_A W) (hp_A D) (hp_A EU) (hp_A EV) (hp_A EC) (hp_A RK) (hp_A OR) (hp_A PR) (hp_A ST) (hp_A FN) (hp_A rs) (hp_A rf) (hp_A us) (hp_A pc) (hp_A rc) f (nI (hp_mx EU t (fun e => P * EC e + RK (EV e)) 0 i)) (nI i) := by
    intro f
    induction f with
    | zero => intro i _ h; omega
    | succ f ih =>
      intro i hi hf
      have bi := bnd i hi
      refine pk_le m i (fun z => ?_) (fun z => ?_)
      · have e : i = m := by omega
        rw [e, nI_add]
        exact h
      · obtain ⟨e1, e2, e3⟩ := hE i z
        have r1 := hR _ e2
        have r2 := hp_Pm hP e3
        have hi32 : vp_in (nI i) 32 := pk_in i 32 (by omega)
        have nx := ih (i + 1) (by omega) (by omega)
        refine ⟨hi32, pk_eq (EU i) t (fun a => ⟨hi32, hi32, ?_⟩) (fun a => hp_n1 ?_) (hx := hp_rd (by omega))⟩
        · rw [hp_rd (f := EV) (j := i) (by omega), hp_rd (f := EC) (j := i) (by omega), hp_rd (f := RK) (j := EV i) (by omega), pk_mul, nI_add]
          refine ⟨pk_in (EV i) 16 (by omega), nm_e (pk_le (P * EC i + RK (EV i)) (hp_mx EU t (fun e => P * EC e + RK (EV e)) 0 i) (fun w => hp_n1 ?_) (fun w => hp_n1 ?_))⟩
          · rw [hp_mx2 a (show ¬ hp_mx EU t (fun e => P * EC e + RK (EV e)) 0 i < P * EC i + RK (EV i) by omega)] at nx
            exact nx
          · rw [hp_mx1 a (show hp_mx EU t (fun e => P * EC e + RK (EV e)) 0 i < P * EC i + RK (EV i) from w)] at nx
            exact nx
        · rw [hp_mx3 a] at nx
          exact nx
  have k1 : ∀ f p, p ≤ P → P - p < f → wY_rankOnce_4 post (nI t) (nI P) cp (nI n) (nI m) pl ck mk (hp_A W) (hp_A D) (hp_A EU) (hp_A EV) (hp_A EC) (hp_A RK) (hp_A OR) (hp_A PR) (hp_A ST) (hp_A FN) (hp_A rs) (hp_A rf) (hp_A us) (hp_A pc) (hp_A rc) f (nI (hp_tc W t p)) (nI p) := by
    intro f
    induction f with
    | zero => intro p _ h; omega
    | succ f ih =>
      intro p hp hf
      refine pk_le P p (fun z => ?_) (fun z => ?_)
      · have e : p = P := by omega
        rw [e]
        exact ⟨m + 1, k2 (m + 1) 0 (by omega) (by omega)⟩
      · rw [hp_ix, hp_rd (by omega), nI_add]
        exact ⟨pk_in (t * 4 + p) 64 (by omega), nm_e (hp_n1 (ih (p + 1) (by omega) (by omega)))⟩
  exact ⟨P + 1, k1 (P + 1) 0 (by omega) (by omega)⟩
theorem y_free {post : Int32 → Prop} {U : Nat → Prop} {p s d : Nat} (hn : n ≤ 16) (hp : p < 4) (hs : s ≤ 30000) (hd : d ≤ 100) (hU : ∀ x, x < n → pc x ≤ 1 ∧ (pc x = 1 ↔ U x)) (hB : ∀ x, x < n → U x → PR x < 4 ∧ ST x ≤ 10000 ∧ FN x ≤ 10000)
    (h1 : (∀ x, x < n → U x → PR x = p → ¬ (s < FN x ∧ ST x < s + d)) → post 1) (h0 : (¬ ∀ x, x < n → U x → PR x = p → ¬ (s < FN x ∧ ST x < s + d)) → post 0) : wpY_free post (nI P, cp, nI n, nI m, pl, ck, mk, hp_A W, hp_A D, hp_A EU, hp_A EV, hp_A EC, hp_A RK, hp_A OR, hp_A PR, hp_A ST, hp_A FN, hp_A rs, hp_A rf, hp_A us, hp_A pc, hp_A rc) (nI p) (nI s) (nI d) := by
  have key : ∀ f i, i ≤ n → n - i < f → (∀ x, x < i → U x → PR x = p → ¬ (s < FN x ∧ ST x < s + d)) → wY_free_3 post (nI p) (nI s) (nI d) (nI P) cp (nI n) (nI m) pl ck mk (hp_A W) (hp_A D) (hp_A EU) (hp_A EV) (hp_A EC) (hp_A RK) (hp_A OR) (hp_A PR) (hp_A ST) (hp_A FN) (hp_A rs) (hp_A rf) (hp_A us) (hp_A pc) (hp_A rc) f (nI i) := by
    intro f
    induction f with
    | zero => intro i _ h; omega
    | succ f ih =>
      intro i hi hf hI
      refine pk_le n i (fun z => ?_) (fun z => ?_)
      · have e : i = n := by omega
        rw [e] at hI
        exact h1 hI
      · have h16 : vp_in (nI i) 16 := pk_in i 16 (by omega)
        have nx : (U i → PR i = p → ¬ (s < FN i ∧ ST i < s + d)) → wY_free_3 post (nI p) (nI s) (nI d) (nI P) cp (nI n) (nI m) pl ck mk (hp_A W) (hp_A D) (hp_A EU) (hp_A EV) (hp_A EC) (hp_A RK) (hp_A OR) (hp_A PR) (hp_A ST) (hp_A FN) (hp_A rs) (hp_A rf) (hp_A us) (hp_A pc) (hp_A rc) f (nI (i + 1)) := fun q => ih (i + 1) (by omega) (by omega) (lt_s hI q)
        refine ⟨h16, hp_z (by omega) (hU i z).1 (hU i z).2 (fun w => hp_n1 (nx fun q => absurd q w)) (fun w => ⟨h16, ?_⟩)⟩
        obtain ⟨b1, b2, b3⟩ := hB i z w
        refine pk_eq (PR i) p (fun a => ⟨h16, ?_⟩) (fun a => hp_n1 (nx fun _ q => absurd q a)) (hx := hp_rd (by omega))
        rw [nI_add, hp_rd (f := FN) (j := i) (by omega), hp_rd (f := ST) (j := i) (by omega)]
        refine pk_le (FN i) s (fun c => hp_n1 (nx fun _ _ q => by omega)) (fun c => ⟨h16, pk_le (s + d) (ST i) (fun c2 => hp_n1 (nx fun _ _ q => by omega)) (fun c2 => ?_)⟩)
        exact h0 (fun q => q i z w a ⟨c, c2⟩)
  exact ⟨n + 1, key (n + 1) 0 (by omega) (by omega) (fun x hx => by omega)⟩
/-- -1 for nothing -/
def hp_o : Option Nat → Int32
  | none => -1
  | some b => nI b
theorem y_est {post : Int32 → Prop} {i p s : Nat} {a : Nat → Nat} (G : hp_G P n m W EU EV EC) (hi : i < n) (ha : ∀ j, j ≤ i → a j < n) (hp : p < P) (hU : ∀ x, x < n → pc x ≤ 1 ∧ (pc x = 1 ↔ ∃ j, j < i ∧ a j = x)) (hB : hp_Bf n m EU EV a)
    (hF : ∀ j, j < i → PR (a j) < 4 ∧ ST (a j) ≤ 10000 ∧ FN (a j) ≤ 10000) (hs : s ≤ 10000) (hL : hp_Le a PR ST FN i p (W (a i * 4 + p)) (hp_mx EV (a i) (hp_ar EU EC PR FN p) 0 m) s) (h : post (nI s)) : wpY_est post (nI P, cp, nI n, nI m, pl, ck, mk, hp_A W, hp_A D, hp_A EU, hp_A EV, hp_A EC, hp_A RK, hp_A OR, hp_A PR, hp_A ST, hp_A FN, hp_A rs, hp_A rf, hp_A us, hp_A pc, hp_A rc) (nI (a i)) (nI p) := by
  obtain ⟨hP1, hP, hn, hm, hW, hE, hT⟩ := G
  have hai := ha i (Nat.le_refl _)
  have hBU : ∀ x, x < n → (∃ j, j < i ∧ a j = x) → PR x < 4 ∧ ST x ≤ 10000 ∧ FN x ≤ 10000 := fun x _ ⟨j, hj, e⟩ => by rw [← e]; exact hF j hj
  have hd := (hW _ _ hai hp).2
  have hUp : ∀ e, e < m → EV e = a i → ∃ j, j < i ∧ a j = EU e := fun e he q => hB e i he hi q
  have bnd : ∀ q, q ≤ m → hp_mx EV (a i) (hp_ar EU EC PR FN p) 0 q ≤ 20000 := fun q hq => hp_mxL (by omega) q (fun e he w => by
    have x := (hBU _ (hE e (by omega)).1 (hUp e (by omega) w)).2.2
    have b := (hE e (by omega)).2.2
    unfold hp_ar
    split <;> omega)
  have scan : ∀ ready, ready ≤ 20000 → hp_Le a PR ST FN i p (W (a i * 4 + p)) ready s → ∀ f x o, x ≤ n → n - x < f → hp_Es (fun x => ∃ j, j < i ∧ a j = x) PR FN p ready s x o → (∀ b, o = some b → b ≤ 20000) → wY_est_128 post (nI p) (nI ready) (nI (W (a i * 4 + p))) (nI P) cp (nI n) (nI m) pl ck mk (hp_A W) (hp_A D) (hp_A EU) (hp_A EV) (hp_A EC) (hp_A RK) (hp_A OR) (hp_A PR) (hp_A ST) (hp_A FN) (hp_A rs) (hp_A rf) (hp_A us) (hp_A pc) (hp_A rc) f (hp_o o) (nI x) := by
    intro ready hr hL f
    induction f with
    | zero => intro x o _ h; omega
    | succ f ih =>
      intro x o hx hf hI ho
      refine pk_le n x (fun z => ?_) (fun z => ?_)
      · have e : x = n := by omega
        rw [e] at hI
        rw [hp_EsE hL (fun j hj => ha j (by omega)) (fun j hj => ⟨j, hj, rfl⟩) hI]
        exact h
      · have h16 : vp_in (nI x) 16 := pk_in x 16 (by omega)
        have skip : (ready < s → o ≠ some s → (∃ j, j < i ∧ a j = x) → PR x = p → FN x = s → False) → wY_est_128 post (nI p) (nI ready) (nI (W (a i * 4 + p))) (nI P) cp (nI n) (nI m) pl ck mk (hp_A W) (hp_A D) (hp_A EU) (hp_A EV) (hp_A EC) (hp_A RK) (hp_A OR) (hp_A PR) (hp_A ST) (hp_A FN) (hp_A rs) (hp_A rf) (hp_A us) (hp_A pc) (hp_A rc) f (hp_o o) (nI (x + 1)) := fun q => ih (x + 1) o (by omega) (by omega) (hp_EsK hI q) ho
        refine ⟨h16, hp_z (by omega) (hU x z).1 (hU x z).2 (fun w => hp_n1 (skip fun _ _ q _ _ => w q)) (fun w => ⟨h16, ?_⟩)⟩
        obtain ⟨b1, b2, b3⟩ := hBU x z w
        refine pk_eq (PR x) p (fun c => ⟨h16, ?_⟩) (fun c => hp_n1 (skip fun _ _ _ q _ => c q)) (hx := hp_rd (by omega))
        refine pk_le (FN x) ready (fun c2 => hp_n1 (skip fun _ _ _ _ q => by omega)) (fun c2 => ?_) (hx := hp_rd (by omega))
        have tk : (∀ b, o = some b → FN x < b) → wY_est_186 post (wY_est_128 post (nI p) (nI ready) (nI (W (a i * 4 + p))) (nI P) cp (nI n) (nI m) pl ck mk (hp_A W) (hp_A D) (hp_A EU) (hp_A EV) (hp_A EC) (hp_A RK) (hp_A OR) (hp_A PR) (hp_A ST) (hp_A FN) (hp_A rs) (hp_A rf) (hp_A us) (hp_A pc) (hp_A rc) f) (nI p) (nI ready) (nI (W (a i * 4 + p))) (hp_o o) (nI x) (nI P) cp (nI n) (nI m) pl ck mk (hp_A W) (hp_A D) (hp_A EU) (hp_A EV) (hp_A EC) (hp_A RK) (hp_A OR) (hp_A PR) (hp_A ST) (hp_A FN) (hp_A rs) (hp_A rf) (hp_A us) (hp_A pc) (hp_A rc) := by
          intro hb
          refine ⟨h16, ?_⟩
          rw [hp_rd (f := FN) (j := x) (by omega)]
          refine y_free (U := fun x => ∃ j, j < i ∧ a j = x) hn (by omega) (by omega) hd hU hBU (fun q => br_f (by decide) ⟨h16, nm_e (hp_n1 ?_)⟩) (fun q => br_t rfl (hp_n1 (skip fun _ _ _ _ e => ?_)))
          · exact ih (x + 1) (some (FN x)) (by omega) (by omega) (hp_EsT hL hI c2 hb ((hp_FrU (fun j hj => ha j (by omega)) (fun x _ => Iff.rfl)).mpr q)) (fun b e => by cases e; omega)
          · refine q ((hp_FrU (fun j hj => ha j (by omega)) (fun x _ => Iff.rfl)).mp ?_)
            rw [e]
            exact hL.2.1
        cases o with
        | none => exact br_t hp_m1n (tk (fun b e => (nomatch e)))
        | some b =>
          have hb := ho b rfl
          refine br_f (nI_pos (by omega)) ⟨h16, pk_le b (FN x) (fun w2 => hp_n1 (skip fun _ q _ _ e => ?_)) (fun w2 => tk (fun b' e => by cases e; exact w2)) (hy := hp_rd (by omega))⟩
          have := hI.1 b rfl
          exact q (by rw [show b = s by omega])
  have ready : ∀ f q, q ≤ m → m - q < f → wY_est_5 post (nI (a i)) (nI p) (nI P) cp (nI n) (nI m) pl ck mk (hp_A W) (hp_A D) (hp_A EU) (hp_A EV) (hp_A EC) (hp_A RK) (hp_A OR) (hp_A PR) (hp_A ST) (hp_A FN) (hp_A rs) (hp_A rf) (hp_A us) (hp_A pc) (hp_A rc) f (nI (hp_mx EV (a i) (hp_ar EU EC PR FN p) 0 q)) (nI q) := by
    intro f
    induction f with
    | zero => intro q _ h; omega
    | succ f ih =>
      intro q hq hf
      have bi := bnd q hq
      refine pk_le m q (fun z => ?_) (fun z => ?_)
      · have e : q = m := by omega
        rw [e] at bi ⊢
        rw [hp_ix, hp_rd (by omega)]
        refine ⟨pk_in (a i * 4 + p) 64 (by omega), nm_e (y_free (U := fun x => ∃ j, j < i ∧ a j = x) hn (by omega) (by omega) hd hU hBU (fun w => br_f (by decide) ⟨n + 1, ?_⟩) (fun w => br_t rfl ⟨n + 1, ?_⟩))⟩
        · exact scan _ bi hL (n + 1) 0 (some _) (by omega) (by omega) (hp_EsA hL ((hp_FrU (fun j hj => ha j (by omega)) (fun x _ => Iff.rfl)).mpr w)) (fun b e => by cases e; exact bi)
        · exact scan _ bi hL (n + 1) 0 none (by omega) (by omega) (hp_EsB hL (fun y => w ((hp_FrU (fun j hj => ha j (by omega)) (fun x _ => Iff.rfl)).mp y))) (fun b e => (nomatch e))
      · obtain ⟨e1, e2, e3⟩ := hE q z
        have hi32 : vp_in (nI q) 32 := pk_in q 32 (by omega)
        have hu16 : vp_in (nI (EU q)) 16 := pk_in (EU q) 16 (by omega)
        have nx := ih (q + 1) (by omega) (by omega)
        refine ⟨hi32, pk_eq (EV q) (a i) (fun c => ⟨hi32, ?_⟩) (fun c => hp_n1 ?_) (hx := hp_rd (by omega))⟩
        · have up := hUp q z c
          obtain ⟨b1, b2, b3⟩ := hBU _ e1 up
          rw [hp_rd (f := EU) (j := q) (by omega)]
          have J : ∀ w1 w2, w1 + w2 = hp_ar EU EC PR FN p q → w1 + w2 ≤ 10100 → wY_est_78 post (wY_est_5 post (nI (a i)) (nI p) (nI P) cp (nI n) (nI m) pl ck mk (hp_A W) (hp_A D) (hp_A EU) (hp_A EV) (hp_A EC) (hp_A RK) (hp_A OR) (hp_A PR) (hp_A ST) (hp_A FN) (hp_A rs) (hp_A rf) (hp_A us) (hp_A pc) (hp_A rc) f) (nI (a i)) (nI p) (nI (hp_mx EV (a i) (hp_ar EU EC PR FN p) 0 q)) (nI q) (nI w2) (nI w1) (nI P) cp (nI n) (nI m) pl ck mk (hp_A W) (hp_A D) (hp_A EU) (hp_A EV) (hp_A EC) (hp_A RK) (hp_A OR) (hp_A PR) (hp_A ST) (hp_A FN) (hp_A rs) (hp_A rf) (hp_A us) (hp_A pc) (hp_A rc) := by
            intro w1 w2 hw hb
            refine nm_r (nI_add w1 w2) (pk_le (w1 + w2) (hp_mx EV (a i) (hp_ar EU EC PR FN p) 0 q) (fun y => hp_n1 ?_) (fun y => hp_n1 ?_))
            · rw [hp_mx2 c (by omega)] at nx
              exact nx
            · rw [hp_mx1 c (by omega)] at nx
              rw [hw]
              exact nx
          refine ⟨hu16, hp_z (by omega) (hU _ e1).1 (hU _ e1).2 (fun w => absurd up w) (fun _ => ⟨hi32, nm_e ⟨hu16, hu16, ?_⟩⟩)⟩
          rw [hp_rd (f := FN) (j := EU q) (by omega), hp_rd (f := EC) (j := q) (by omega)]
          refine pk_eq (PR (EU q)) p (fun b => J _ 0 ?_ (by omega)) (fun b => ⟨hi32, J _ _ ?_ (by omega)⟩) (hx := hp_rd (by omega))
          · unfold hp_ar
            rw [if_pos b]
          · unfold hp_ar
            rw [if_neg b]
        · rw [hp_mx3 c] at nx
          exact nx
  exact ⟨m + 1, ready (m + 1) 0 (by omega) (by omega)⟩
end
end
section
section
variable {P n m : Nat} {cp pl ck mk : Int32} {W D EU EV EC RK OR PR ST FN rs rf us pc rc : Nat → Nat}
/-! ===== the reference: the plan ===== -/
theorem y_plan {post : Int32 → SY → Prop} {L R r a : Nat → Nat} (G : hp_G P n m W EU EV EC) (H : hp_Rk P n m W EU EV EC L R) (hr : hp_XK P n m W EU EV EC L R RK n r) (S : hp_So n (fun x => 20000 - r x) a) (ha : ∀ j, n ≤ j → a j = OR j) (hB : hp_Bf n m EU EV a) (hn0 : 0 < n)
    (h : ∀ us' pc', post (nI (hp_Z P m W EU EV EC a PR ST FN n).2.2.2) (nI P, cp, nI n, nI m, 1, 0, nI (hp_Z P m W EU EV EC a PR ST FN n).2.2.2, hp_A W, hp_A D, hp_A EU, hp_A EV, hp_A EC, hp_A r, hp_A a, hp_A ((hp_Z P m W EU EV EC a PR ST FN n).1), hp_A ((hp_Z P m W EU EV EC a PR ST FN n).2.1), hp_A ((hp_Z P m W EU EV EC a PR ST FN n).2.2.1), hp_A rs, hp_A rf, hp_A us', hp_A pc', hp_A rc)) :
    wpY_plan post (nI P, cp, nI n, nI m, pl, ck, mk, hp_A W, hp_A D, hp_A EU, hp_A EV, hp_A EC, hp_A RK, hp_A OR, hp_A PR, hp_A ST, hp_A FN, hp_A rs, hp_A rf, hp_A us, hp_A pc, hp_A rc) := by
  have G' := G
  obtain ⟨hP1, hP, hn, hm, hW, hE, hT⟩ := G'
  have hrb : ∀ x, x < n → r x ≤ 12800 := fun x hx => by
    have a := hr.2.1 x hx (by omega)
    have b := H.2.2.2 x hx
    omega
  -- placing
  have l211 : ∀ us0 f i PR' ST' FN' pc' mk', i ≤ n → n - i < f → hp_Z P m W EU EV EC a PR ST FN i = (PR', ST', FN', mk') → (∀ x, x < n → pc' x ≤ 1 ∧ (pc' x = 1 ↔ ∃ j, j < i ∧ a j = x)) → wY_plan_211 post (nI P) cp (nI n) (nI m) pl ck f (nI i) (nI mk') (hp_A W) (hp_A D) (hp_A EU) (hp_A EV) (hp_A EC) (hp_A r) (hp_A a) (hp_A PR') (hp_A ST') (hp_A FN') (hp_A rs) (hp_A rf) (hp_A us0) (hp_A pc') (hp_A rc) := by
    intro us0 f
    induction f with
    | zero => intro i PR' ST' FN' pc' mk' _ h; omega
    | succ f ih =>
      intro i PR' ST' FN' pc' mk' hi hf hZ hU
      have K : hp_PK P m W EU EV a i PR' ST' FN' mk' := by
        have q := hp_ZK (PR := PR) (ST := ST) (FN := FN) G S hB i hi
        rw [hZ] at q
        exact q
      refine pk_le n i (fun z => ?_) (fun z => ?_)
      · have e : i = n := by omega
        rw [e] at hZ
        have h' := h us0 pc'
        rw [hZ] at h'
        exact h'
      · have hti := S.1 i z
        obtain ⟨k1, k2, k3⟩ := hp_nxK G S hB z K
        have k4 := K.2.2.2
        have h16 : vp_in (nI (a i)) 16 := pk_in (a i) 16 (by omega)
        have bd : ∀ p, p < P → hp_es m W EU EV EC a PR' ST' FN' i p ≤ 3300 ∧ hp_fs m W EU EV EC a PR' ST' FN' i p ≤ 3400 := by
          intro p hp
          have a1 := hp_esB (fun e he => (hE e he).2.2) hB z K p
          have b1 := (hW _ _ hti hp).2
          unfold hp_fs
          omega
        have E : ∀ (p : Nat) (post : Int32 → Prop), p < P → post (nI (hp_es m W EU EV EC a PR' ST' FN' i p)) → wpY_est post (nI P, cp, nI n, nI m, pl, ck, nI mk', hp_A W, hp_A D, hp_A EU, hp_A EV, hp_A EC, hp_A r, hp_A a, hp_A PR', hp_A ST', hp_A FN', hp_A rs, hp_A rf, hp_A us0, hp_A pc', hp_A rc) (nI (a i)) (nI p) := by
          intro p post hp hq
          refine y_est G z (fun j hj => S.1 j (by omega)) hp hU hB (fun j hj => ?_) (by have := (bd p hp).1; omega) (hp_esL K p) hq
          have q := K.1 j hj
          exact ⟨by omega, by omega, by omega⟩
        have hU' : ∀ x, x < n → hp_u pc' (a i) 1 x ≤ 1 ∧ (hp_u pc' (a i) 1 x = 1 ↔ ∃ j, j < i + 1 ∧ a j = x) := by
          intro x hx
          by_cases e : x = a i
          · subst e
            rw [hp_us]
            exact ⟨Nat.le_refl _, fun _ => ⟨i, by omega, rfl⟩, fun _ => rfl⟩
          · rw [hp_un e]
            refine ⟨(hU x hx).1, fun q => ?_, fun ⟨j, hj, q⟩ => (hU x hx).2.mpr ⟨j, ?_, q⟩⟩
            · obtain ⟨j, hj, q⟩ := (hU x hx).2.mp q
              exact ⟨j, by omega, q⟩
            · by_cases w : j = i
              · subst w; exact absurd q.symm e
              · omega
        have Z1 : hp_Z P m W EU EV EC a PR ST FN (i + 1) = hp_nx P m W EU EV EC a i (PR', ST', FN', mk') := by
          rw [hp_Z, hZ]
        have loop : ∀ g p, 0 < p → p ≤ P → P - p < g → wY_plan_237 post (wY_plan_211 post (nI P) cp (nI n) (nI m) pl ck f) (nI i) (nI (a i)) (nI P) cp (nI n) (nI m) pl ck (nI mk') (hp_A W) (hp_A D) (hp_A EU) (hp_A EV) (hp_A EC) (hp_A r) (hp_A a) (hp_A PR') (hp_A ST') (hp_A FN') (hp_A rs) (hp_A rf) (hp_A us0) (hp_A pc') (hp_A rc) g (nI (hp_bp (hp_fs m W EU EV EC a PR' ST' FN' i) p)) (nI (hp_fs m W EU EV EC a PR' ST' FN' i (hp_bp (hp_fs m W EU EV EC a PR' ST' FN' i) p))) (nI (hp_es m W EU EV EC a PR' ST' FN' i (hp_bp (hp_fs m W EU EV EC a PR' ST' FN' i) p))) (nI p) := by
          intro g
          induction g with
          | zero => intro p _ _ h; omega
          | succ g ihg =>
            intro p h0 hp hg
            have hbp := hp_bpL (hp_fs m W EU EV EC a PR' ST' FN' i) p h0
            have b1 := (bd (hp_bp (hp_fs m W EU EV EC a PR' ST' FN' i) p) (by omega)).2
            refine pk_le P p (fun w => ?_) (fun w => ?_)
            · have e : p = P := by omega
              subst e
              refine ⟨h16, hp_nu (by omega) ⟨h16, hp_nu (by omega) ⟨h16, hp_nu (by omega) ⟨h16, hp_nuB1 (by omega) ?_⟩⟩⟩⟩
              refine pk_le (hp_fs m W EU EV EC a PR' ST' FN' i (hp_bp (hp_fs m W EU EV EC a PR' ST' FN' i) p)) mk' (fun y => hp_n1 ?_) (fun y => hp_n1 ?_)
              · refine ih (i + 1) _ _ _ _ mk' (by omega) (by omega) ?_ hU'
                rw [Z1]
                unfold hp_nx
                rw [if_neg (show ¬ mk' < hp_fs m W EU EV EC a PR' ST' FN' i (hp_zb p m W EU EV EC a PR' ST' FN' i) by unfold hp_zb; omega)]
                rfl
              · refine ih (i + 1) _ _ _ _ (hp_fs m W EU EV EC a PR' ST' FN' i (hp_bp (hp_fs m W EU EV EC a PR' ST' FN' i) p)) (by omega) (by omega) ?_ hU'
                rw [Z1]
                unfold hp_nx
                rw [if_pos (show mk' < hp_fs m W EU EV EC a PR' ST' FN' i (hp_zb p m W EU EV EC a PR' ST' FN' i) from y)]
                rfl
            · have nx := ihg (p + 1) (by omega) (by omega) (by omega)
              have b2 := (bd p w).2
              refine E p _ w ?_
              rw [hp_ix, hp_rd (by omega)]
              refine ⟨pk_in (a i * 4 + p) 64 (by omega), nm_r (nI_add _ _) (br_f (nI_pos (by omega)) ?_)⟩
              refine pk_le (hp_fs m W EU EV EC a PR' ST' FN' i (hp_bp (hp_fs m W EU EV EC a PR' ST' FN' i) p)) (hp_fs m W EU EV EC a PR' ST' FN' i p) (fun y => hp_n1 ?_) (fun y => hp_n1 ?_)
              · have e : hp_bp (hp_fs m W EU EV EC a PR' ST' FN' i) (p + 1) = hp_bp (hp_fs m W EU EV EC a PR' ST' FN' i) p := by
                  rw [hp_bp, if_neg (by omega)]
                rw [e] at nx
                exact nx
              · have e : hp_bp (hp_fs m W EU EV EC a PR' ST' FN' i) (p + 1) = p := by
                  rw [hp_bp, if_pos y]
                rw [e] at nx
                exact nx
        refine ⟨pk_in i 16 (by omega), hp_nr (by omega) ⟨P + 2, ?_⟩⟩
        refine br_f (nI_ge (a := 0) (by omega) (by omega)) (E 0 _ (by omega) ?_)
        have nx := loop (P + 1) 1 (by omega) (by omega) (by omega)
        rw [hp_bp1] at nx
        have e0 : nI (a i) * 4 + 0 = nI (a i * 4 + 0) := hp_ix (a i) 0
        rw [e0, hp_rd (by omega)]
        exact ⟨pk_in (a i * 4 + 0) 64 (by omega), nm_r (nI_add _ _) (br_t hp_m1n (hp_n1 (i := 0) nx))⟩
  have l183 : ∀ us0 f t pc', t ≤ n → n - t < f → (∀ x, x < t → pc' x = 0) → wY_plan_183 post (nI P) cp (nI n) (nI m) pl ck mk f (nI t) (hp_A W) (hp_A D) (hp_A EU) (hp_A EV) (hp_A EC) (hp_A r) (hp_A a) (hp_A PR) (hp_A ST) (hp_A FN) (hp_A rs) (hp_A rf) (hp_A us0) (hp_A pc') (hp_A rc) := by
    intro us0 f
    induction f with
    | zero => intro t pc' _ h; omega
    | succ f ih =>
      intro t pc' ht hf hI
      refine pk_le n t (fun z => ?_) (fun z => ?_)
      · have e : t = n := by omega
        rw [e] at hI
        exact ⟨n + 1, l211 us0 (n + 1) 0 PR ST FN pc' 0 (by omega) (by omega) rfl (fun x hx => ⟨by rw [hI x hx]; omega, fun q => by rw [hI x hx] at q; omega, fun ⟨j, hj, _⟩ => by omega⟩)⟩
      · refine ⟨pk_in t 16 (by omega), hp_nuB0 (by omega) (hp_n1 (ih (t + 1) _ (by omega) (by omega) (fun x hx => ?_)))⟩
        by_cases e : x = t
        · subst e; rw [hp_us]
        · rw [hp_un e]; exact hI x (by omega)
  -- choosing
  have l113 : ∀ (i : Nat) (us' o : Nat → Nat) (J : Int32 → (Nat → Int32) → (Nat → Int32) → (Nat → Int32) → (Nat → Int32) → (Nat → Int32) → (Nat → Int32) → (Nat → Int32) → (Nat → Int32) → (Nat → Int32) → (Nat → Int32) → (Nat → Int32) → (Nat → Int32) → (Nat → Int32) → (Nat → Int32) → (Nat → Int32) → Prop), i < n → hp_Se n a OR i us' o → J (nI (i + 1)) (hp_A W) (hp_A D) (hp_A EU) (hp_A EV) (hp_A EC) (hp_A r) (hp_A (hp_u o i (a i))) (hp_A PR) (hp_A ST) (hp_A FN) (hp_A rs) (hp_A rf) (hp_A (hp_u us' (a i) 1)) (hp_A pc) (hp_A rc) →
      ∀ f t b, t ≤ n → n - t < f → hp_Sc (fun x => 20000 - r x) (fun x => us' x = 1) t b → wY_plan_113 post J (nI i) (nI P) cp (nI n) (nI m) pl ck mk (hp_A W) (hp_A D) (hp_A EU) (hp_A EV) (hp_A EC) (hp_A r) (hp_A o) (hp_A PR) (hp_A ST) (hp_A FN) (hp_A rs) (hp_A rf) (hp_A us') (hp_A pc) (hp_A rc) f (hp_o b) (nI t) := by
    intro i us' o J hi hSe hJ f
    induction f with
    | zero => intro t b _ h; omega
    | succ f ih =>
      intro t b ht hf hI
      refine pk_le n t (fun z => ?_) (fun z => ?_)
      · have e : t = n := by omega
        rw [e] at hI
        rw [hp_ScE S hi hSe.2.2.2 hI]
        have hai := S.1 i hi
        exact br_f (nI_pos (by omega)) ⟨pk_in (a i) 16 (by omega), hp_nuB1 (by omega) ⟨pk_in i 16 (by omega), hp_nu (by omega) (hp_n1 hJ)⟩⟩
      · have h16 : vp_in (nI t) 16 := pk_in t 16 (by omega)
        refine ⟨h16, hp_z (by omega) (hSe.2.2.1 t z) Iff.rfl (fun w => ?_) (fun w => hp_n1 (ih (t + 1) b (by omega) (by omega) (hp_ScU hI w)))⟩
        cases b with
        | none => exact br_t hp_m1n (hp_n1 (ih (t + 1) (some t) (by omega) (by omega) (hp_ScN hI w)))
        | some b =>
          have hb := hI.1
          have r1 := hrb t z
          have r2 := hrb b (by omega)
          refine br_f (nI_pos (by omega)) ⟨h16, pk_in b 16 (by omega), ?_⟩
          refine pk_le (r t) (r b) (fun y => hp_n1 (ih (t + 1) (some b) (by omega) (by omega) (hp_ScK hI ?_))) (fun y => hp_n1 (ih (t + 1) (some t) (by omega) (by omega) (hp_ScB hI w ?_))) (hx := hp_rd (by omega)) (hy := hp_rd (by omega))
          · show ¬ 20000 - r t < 20000 - r b
            omega
          · show 20000 - r t < 20000 - r b
            omega
  have l101 : ∀ f i us' o, i ≤ n → n - i < f → hp_Se n a OR i us' o → wY_plan_101 post (nI P) cp (nI n) (nI m) pl ck mk f (nI i) (hp_A W) (hp_A D) (hp_A EU) (hp_A EV) (hp_A EC) (hp_A r) (hp_A o) (hp_A PR) (hp_A ST) (hp_A FN) (hp_A rs) (hp_A rf) (hp_A us') (hp_A pc) (hp_A rc) := by
    intro f
    induction f with
    | zero => intro i us' o _ h; omega
    | succ f ih =>
      intro i us' o hi hf hI
      refine pk_le n i (fun z => ?_) (fun z => ?_)
      · have e : i = n := by omega
        rw [e] at hI
        rw [hp_Seu hI ha]
        exact ⟨n + 1, l183 us' (n + 1) 0 pc (by omega) (by omega) (fun x hx => by omega)⟩
      · exact ⟨n + 1, l113 i us' o _ z hI (ih (i + 1) _ _ (by omega) (by omega) (hp_Ses S z hI)) (n + 1) 0 none (by omega) (by omega) (hp_Sc0 _ _)⟩
  have l78 : ∀ f t us', t ≤ n → n - t < f → (∀ x, x < t → us' x = 0) → wY_plan_78 post (nI P) cp (nI n) (nI m) pl ck mk f (nI t) (hp_A W) (hp_A D) (hp_A EU) (hp_A EV) (hp_A EC) (hp_A r) (hp_A OR) (hp_A PR) (hp_A ST) (hp_A FN) (hp_A rs) (hp_A rf) (hp_A us') (hp_A pc) (hp_A rc) := by
    intro f
    induction f with
    | zero => intro t us' _ h; omega
    | succ f ih =>
      intro t us' ht hf hI
      refine pk_le n t (fun z => ?_) (fun z => ?_)
      · have e : t = n := by omega
        rw [e] at hI
        exact ⟨n + 1, l101 (n + 1) 0 us' OR (by omega) (by omega) (hp_Se0 hI)⟩
      · refine ⟨pk_in t 16 (by omega), hp_nuB0 (by omega) (hp_n1 (ih (t + 1) _ (by omega) (by omega) (fun x hx => ?_)))⟩
        by_cases e : x = t
        · subst e; rw [hp_us]
        · rw [hp_un e]; exact hI x (by omega)
  -- ranks
  have l45 : ∀ (k : Nat) (J : Int32 → (Nat → Int32) → (Nat → Int32) → (Nat → Int32) → (Nat → Int32) → (Nat → Int32) → (Nat → Int32) → (Nat → Int32) → (Nat → Int32) → (Nat → Int32) → (Nat → Int32) → (Nat → Int32) → (Nat → Int32) → (Nat → Int32) → (Nat → Int32) → (Nat → Int32) → Prop), (∀ q, hp_YE n L R RK k n q → J (nI (k + 1)) (hp_A W) (hp_A D) (hp_A EU) (hp_A EV) (hp_A EC) (hp_A q) (hp_A OR) (hp_A PR) (hp_A ST) (hp_A FN) (hp_A rs) (hp_A rf) (hp_A us) (hp_A pc) (hp_A rc)) → ∀ f t q, t ≤ n → n - t < f → hp_YE n L R RK k t q → wY_plan_45 post J (nI k) (nI P) cp (nI n) (nI m) pl ck mk f (nI t) (hp_A W) (hp_A D) (hp_A EU) (hp_A EV) (hp_A EC) (hp_A q) (hp_A OR) (hp_A PR) (hp_A ST) (hp_A FN) (hp_A rs) (hp_A rf) (hp_A us) (hp_A pc) (hp_A rc) := by
    intro k J hJ f
    induction f with
    | zero => intro t q _ h; omega
    | succ f ih =>
      intro t q ht hf hI
      refine pk_le n t (fun z => ?_) (fun z => ?_)
      · have e : t = n := by omega
        rw [e] at hI
        exact hp_n1 (hJ q hI)
      · refine y_rankOnce G z (fun j hj => ?_) ⟨pk_in t 16 (by omega), hp_nu (by omega) (hp_n1 (ih (t + 1) _ (by omega) (by omega) (hp_YEs H (fun e he => (hE e he).2.1) z hI)))⟩
        have a1 := hI.1.1 j hj
        have a2 := H.2.2.2 j hj
        omega
  have l35 : ∀ f k q, k ≤ n → n - k < f → hp_YK n L R RK k q → wY_plan_35 post (nI P) cp (nI n) (nI m) pl ck mk f (nI k) (hp_A W) (hp_A D) (hp_A EU) (hp_A EV) (hp_A EC) (hp_A q) (hp_A OR) (hp_A PR) (hp_A ST) (hp_A FN) (hp_A rs) (hp_A rf) (hp_A us) (hp_A pc) (hp_A rc) := by
    intro f
    induction f with
    | zero => intro k q _ h; omega
    | succ f ih =>
      intro k q hk hf hI
      refine pk_le n k (fun z => ?_) (fun z => ?_)
      · have e : k = n := by omega
        rw [e] at hI
        rw [hp_rkU hr hI]
        exact ⟨n + 1, l78 (n + 1) 0 us (by omega) (by omega) (fun x hx => by omega)⟩
      · exact ⟨n + 1, l45 k _ (fun q' hq' => ih (k + 1) q' (by omega) (by omega) (hp_YEe hq')) (n + 1) 0 q (by omega) (by omega) ⟨hI, fun j hj => by omega⟩⟩
  have l12 : ∀ f t q, t ≤ n → n - t < f → (∀ j, j < t → q j = 0) → (∀ j, n ≤ j → q j = RK j) → wY_plan_12 post (nI P) cp (nI n) (nI m) pl ck mk f (nI t) (hp_A W) (hp_A D) (hp_A EU) (hp_A EV) (hp_A EC) (hp_A q) (hp_A OR) (hp_A PR) (hp_A ST) (hp_A FN) (hp_A rs) (hp_A rf) (hp_A us) (hp_A pc) (hp_A rc) := by
    intro f
    induction f with
    | zero => intro t q _ h; omega
    | succ f ih =>
      intro t q ht hf h1 h2
      refine pk_le n t (fun z => ?_) (fun z => ?_)
      · have e : t = n := by omega
        rw [e] at h1
        exact ⟨n + 1, l35 (n + 1) 0 q (by omega) (by omega) (hp_YK0 H h1 h2)⟩
      · refine ⟨pk_in t 16 (by omega), hp_nu (v := 0) (by omega) (hp_n1 (ih (t + 1) _ (by omega) (by omega) (fun j hj => ?_) (fun j hj => ?_)))⟩
        · by_cases e : j = t
          · subst e; rw [hp_us]
          · rw [hp_un e]; exact h1 j (by omega)
        · rw [hp_un (by omega)]; exact h2 j hj
  exact br_f (nI_ne0 hn0 (by omega)) ⟨n + 1, l12 (n + 1) 0 RK (by omega) (by omega) (fun j hj => by omega) (fun _ _ => rfl)⟩
end
end
section
section
variable {P n m : Nat} {cp pl ck mk : Int32} {W D EU EV EC RK OR PR ST FN rs rf us pc rc : Nat → Nat}
/-! ===== the reference: the replay ===== -/
theorem y_replayOnce {post : SY → Prop} {t : Nat} (G : hp_G P n m W EU EV EC) (Q : hp_Pl P n m W EU EV PR ST FN) (hD : ∀ x, x < n → D x ≤ 100) (hrf : ∀ x, x < n → rf x ≤ 4800) (ht : t < n)
    (h : ∀ b, hp_Bs n PR ST rf t b → post (nI P, cp, nI n, nI m, pl, ck, mk, hp_A W, hp_A D, hp_A EU, hp_A EV, hp_A EC, hp_A RK, hp_A OR, hp_A PR, hp_A ST, hp_A FN, hp_A (hp_u rs t (hp_mx EV t (hp_ar EU EC PR rf (PR t)) b m)), hp_A (hp_u rf t (hp_mx EV t (hp_ar EU EC PR rf (PR t)) b m + W (t * 4 + PR t) + D t)), hp_A us, hp_A pc, hp_A rc)) : wpY_replayOnce post (nI P, cp, nI n, nI m, pl, ck, mk, hp_A W, hp_A D, hp_A EU, hp_A EV, hp_A EC, hp_A RK, hp_A OR, hp_A PR, hp_A ST, hp_A FN, hp_A rs, hp_A rf, hp_A us, hp_A pc, hp_A rc) (nI t) := by
  have G' := G
  obtain ⟨hP1, hP, hn, hm, hW, hE, hT⟩ := G'
  obtain ⟨hp, hf0, hf1⟩ := Q.1 t ht
  have ht16 : vp_in (nI t) 16 := pk_in t 16 (by omega)
  have hq : ∀ x, x < n → PR x < 4 ∧ ST x ≤ 3200 := fun x hx => by
    have := Q.1 x hx
    exact ⟨by omega, by omega⟩
  have hst := (hq t ht).2
  have k2 : ∀ b, b ≤ 4800 → hp_Bs n PR ST rf t b → ∀ f i, i ≤ m → m - i < f → wY_replayOnce_101 post (nI t) (nI (PR t)) (nI P) cp (nI n) (nI m) pl ck mk (hp_A W) (hp_A D) (hp_A EU) (hp_A EV) (hp_A EC) (hp_A RK) (hp_A OR) (hp_A PR) (hp_A ST) (hp_A FN) (hp_A rs) (hp_A rf) (hp_A us) (hp_A pc) (hp_A rc) f (nI (hp_mx EV t (hp_ar EU EC PR rf (PR t)) b i)) (nI i) := by
    intro b hb hB f
    have bnd : ∀ i, i ≤ m → hp_mx EV t (hp_ar EU EC PR rf (PR t)) b i ≤ 10000 := fun i hi => hp_mxL (by omega) i (fun e he q => by
      have a := hrf _ (hE e (by omega)).1
      have c := (hE e (by omega)).2.2
      unfold hp_ar
      split <;> omega)
    induction f with
    | zero => intro i _ h; omega
    | succ f ih =>
      intro i hi hf
      have bi := bnd i hi
      refine pk_le m i (fun z => ?_) (fun z => ?_)
      · have e : i = m := by omega
        rw [e]
        refine ⟨ht16, hp_nu (by omega) ?_⟩
        rw [hp_ix, hp_rd (f := W) (by omega), hp_rd (f := D) (by omega), nI_add, nI_add]
        exact ⟨pk_in (t * 4 + PR t) 64 (by omega), ht16, ht16, hp_nu (by omega) (h b hB)⟩
      · obtain ⟨e1, e2, e3⟩ := hE i z
        have hi32 : vp_in (nI i) 32 := pk_in i 32 (by omega)
        have hu16 : vp_in (nI (EU i)) 16 := pk_in (EU i) 16 (by omega)
        have nx := ih (i + 1) (by omega) (by omega)
        have r1 := hrf _ e1
        have r2 := (hq _ e1).1
        refine ⟨hi32, pk_eq (EV i) t (fun c => ⟨hi32, hp_nr (by omega) ⟨hu16, hu16, ?_⟩⟩) (fun c => hp_n1 ?_) (hx := hp_rd (by omega))⟩
        · have J : ∀ w1 w2, w1 + w2 = hp_ar EU EC PR rf (PR t) i → w1 + w2 ≤ 10100 → wY_replayOnce_159 post (wY_replayOnce_101 post (nI t) (nI (PR t)) (nI P) cp (nI n) (nI m) pl ck mk (hp_A W) (hp_A D) (hp_A EU) (hp_A EV) (hp_A EC) (hp_A RK) (hp_A OR) (hp_A PR) (hp_A ST) (hp_A FN) (hp_A rs) (hp_A rf) (hp_A us) (hp_A pc) (hp_A rc) f) (nI t) (nI (PR t)) (nI (hp_mx EV t (hp_ar EU EC PR rf (PR t)) b i)) (nI i) (nI w2) (nI w1) (nI P) cp (nI n) (nI m) pl ck mk (hp_A W) (hp_A D) (hp_A EU) (hp_A EV) (hp_A EC) (hp_A RK) (hp_A OR) (hp_A PR) (hp_A ST) (hp_A FN) (hp_A rs) (hp_A rf) (hp_A us) (hp_A pc) (hp_A rc) := by
            intro w1 w2 hw hb
            refine nm_r (nI_add w1 w2) (pk_le (w1 + w2) (hp_mx EV t (hp_ar EU EC PR rf (PR t)) b i) (fun y => hp_n1 ?_) (fun y => hp_n1 ?_))
            · rw [hp_mx2 c (by omega)] at nx
              exact nx
            · rw [hp_mx1 c (by omega)] at nx
              rw [hw]
              exact nx
          rw [hp_rd (f := rf) (j := EU i) (by omega), hp_rd (f := EC) (j := i) (by omega)]
          refine pk_eq (PR (EU i)) (PR t) (fun b => J _ 0 ?_ (by omega)) (fun b => ⟨hi32, J _ _ ?_ (by omega)⟩) (hx := hp_rd (by omega))
          · unfold hp_ar
            rw [if_pos b]
          · unfold hp_ar
            rw [if_neg b]
        · rw [hp_mx3 c] at nx
          exact nx
  have k1 : ∀ f x o, x ≤ n → n - x < f → hp_Pv PR ST t x o → wY_replayOnce_12 post (nI t) (nI (PR t)) (nI P) cp (nI n) (nI m) pl ck mk (hp_A W) (hp_A D) (hp_A EU) (hp_A EV) (hp_A EC) (hp_A RK) (hp_A OR) (hp_A PR) (hp_A ST) (hp_A FN) (hp_A rs) (hp_A rf) (hp_A us) (hp_A pc) (hp_A rc) f (hp_o o) (nI x) := by
    intro f
    induction f with
    | zero => intro x o _ h; omega
    | succ f ih =>
      intro x o hx hf hI
      refine pk_le n x (fun z => ?_) (fun z => ?_)
      · have e : x = n := by omega
        rw [e] at hI
        cases o with
        | none => exact br_t hp_m1n ⟨m + 1, k2 0 (by omega) (hp_PvN hI) (m + 1) 0 (by omega) (by omega)⟩
        | some b =>
          have hb := hI.1
          exact br_f (nI_pos (by omega)) ⟨pk_in b 16 (by omega), hp_nr (by omega) ⟨m + 1, k2 (rf b) (hrf b hb) (hp_PvS hI) (m + 1) 0 (by omega) (by omega)⟩⟩
      · have h16 : vp_in (nI x) 16 := pk_in x 16 (by omega)
        obtain ⟨q1, q2⟩ := hq x z
        have skip : (PR x = PR t → ST x < ST t → ∃ b, o = some b ∧ ST x ≤ ST b) → wY_replayOnce_12 post (nI t) (nI (PR t)) (nI P) cp (nI n) (nI m) pl ck mk (hp_A W) (hp_A D) (hp_A EU) (hp_A EV) (hp_A EC) (hp_A RK) (hp_A OR) (hp_A PR) (hp_A ST) (hp_A FN) (hp_A rs) (hp_A rf) (hp_A us) (hp_A pc) (hp_A rc) f (hp_o o) (nI (x + 1)) := fun w => ih (x + 1) o (by omega) (by omega) (hp_PvK hI w)
        refine pk_eq x t (fun w => hp_n1 (skip fun _ q => by rw [w] at q; omega)) (fun w => ⟨h16, ?_⟩)
        refine pk_eq (PR x) (PR t) (fun c => ⟨h16, ht16, ?_⟩) (fun c => hp_n1 (skip fun q _ => absurd q c)) (hx := hp_rd (by omega))
        refine pk_le (ST t) (ST x) (fun c2 => hp_n1 (skip fun _ q => by omega)) (fun c2 => ?_) (hx := hp_rd (by omega)) (hy := hp_rd (by omega))
        cases o with
        | none => exact br_t hp_m1n (hp_n1 (ih (x + 1) (some x) (by omega) (by omega) (hp_PvT hI c c2 (fun b e => (nomatch e)))))
        | some b =>
          have hb := hI.1
          have hb2 := (hq b (by omega)).2
          refine br_f (nI_pos (by omega)) ⟨h16, pk_in b 16 (by omega), ?_⟩
          exact pk_le (ST x) (ST b) (fun y => hp_n1 (skip fun _ _ => ⟨b, rfl, y⟩)) (fun y => hp_n1 (ih (x + 1) (some x) (by omega) (by omega) (hp_PvT hI c c2 (fun b' e => by cases e; exact y)))) (hx := hp_rd (by omega)) (hy := hp_rd (by omega))
  exact ⟨ht16, hp_nr (by omega) ⟨n + 1, k1 (n + 1) 0 none (by omega) (by omega) (hp_Pv0 PR ST t)⟩⟩
theorem y_replay {post : SY → Prop} {RS RF : Nat → Nat} (G : hp_G P n m W EU EV EC) (Q : hp_Pl P n m W EU EV PR ST FN) (hD : ∀ x, x < n → D x ≤ 100) (R : hp_Rp n m W D EU EV EC PR ST RS RF)
    (h : ∀ rs' rf', (∀ t, t < n → rs' t = RS t ∧ rf' t = RF t) → post (nI P, cp, nI n, nI m, pl, ck, mk, hp_A W, hp_A D, hp_A EU, hp_A EV, hp_A EC, hp_A RK, hp_A OR, hp_A PR, hp_A ST, hp_A FN, hp_A rs', hp_A rf', hp_A us, hp_A pc, hp_A rc)) : wpY_replay post (nI P, cp, nI n, nI m, pl, ck, mk, hp_A W, hp_A D, hp_A EU, hp_A EV, hp_A EC, hp_A RK, hp_A OR, hp_A PR, hp_A ST, hp_A FN, hp_A rs, hp_A rf, hp_A us, hp_A pc, hp_A rc) := by
  have hn := G.2.2.1
  obtain ⟨L, hL1, hL2⟩ := hp_lev ST n
  have inner : ∀ (k : Nat) (J : Int32 → Int32 → Int32 → Int32 → Int32 → Int32 → Int32 → Int32 → (Nat → Int32) → (Nat → Int32) → (Nat → Int32) → (Nat → Int32) → (Nat → Int32) → (Nat → Int32) → (Nat → Int32) → (Nat → Int32) → (Nat → Int32) → (Nat → Int32) → (Nat → Int32) → (Nat → Int32) → (Nat → Int32) → (Nat → Int32) → (Nat → Int32) → Prop), (∀ rs' rf', hp_YQ n L RS RF k n rs' rf' → J (nI (k + 1)) (nI P) cp (nI n) (nI m) pl ck mk (hp_A W) (hp_A D) (hp_A EU) (hp_A EV) (hp_A EC) (hp_A RK) (hp_A OR) (hp_A PR) (hp_A ST) (hp_A FN) (hp_A rs') (hp_A rf') (hp_A us) (hp_A pc) (hp_A rc)) → ∀ f i rs' rf', i ≤ n → n - i < f → hp_YQ n L RS RF k i rs' rf' → wY_replay_42 post J (nI k) f (nI i) (nI P) cp (nI n) (nI m) pl ck mk (hp_A W) (hp_A D) (hp_A EU) (hp_A EV) (hp_A EC) (hp_A RK) (hp_A OR) (hp_A PR) (hp_A ST) (hp_A FN) (hp_A rs') (hp_A rf') (hp_A us) (hp_A pc) (hp_A rc) := by
    intro k J hJ f
    induction f with
    | zero => intro i rs' rf' _ h; omega
    | succ f ih =>
      intro i rs' rf' hi hf hI
      refine pk_le n i (fun z => ?_) (fun z => ?_)
      · have e : i = n := by omega
        rw [e] at hI
        exact hp_n1 (hJ rs' rf' hI)
      · refine y_replayOnce G Q hD (fun x hx => ?_) z (fun b hb => ?_)
        · have a1 := hI.1.1 x hx
          have a2 := (R x hx).2
          omega
        · exact hp_n1 (ih (i + 1) _ _ (by omega) (by omega) (hp_YQs G Q hL2 R z hI hb).2)
  have outer : ∀ f k rs' rf', k ≤ n + 1 → n + 1 - k < f → hp_YR n L RS RF k rs' rf' → wY_replay_32 post f (nI k) (nI P) cp (nI n) (nI m) pl ck mk (hp_A W) (hp_A D) (hp_A EU) (hp_A EV) (hp_A EC) (hp_A RK) (hp_A OR) (hp_A PR) (hp_A ST) (hp_A FN) (hp_A rs') (hp_A rf') (hp_A us) (hp_A pc) (hp_A rc) := by
    intro f
    induction f with
    | zero => intro k rs' rf' _ h; omega
    | succ f ih =>
      intro k rs' rf' hk hf hI
      refine pk_lt n k (fun z => ?_) (fun z => ?_)
      · exact h rs' rf' (fun t ht => hI.2 t ht (by have := hL1 t ht; omega))
      · exact ⟨n + 1, inner k _ (fun rs'' rf'' hq => ih (k + 1) rs'' rf'' (by omega) (by omega) (hp_YQe hq)) (n + 1) 0 rs' rf' (by omega) (by omega) ⟨hI, fun t ht => by omega⟩⟩
  have init : ∀ f t rs' rf', t ≤ n → n - t < f → (∀ x, x < t → rf' x = 0) → wY_replay_2 post (nI P) cp (nI n) (nI m) pl ck mk f (nI t) (hp_A W) (hp_A D) (hp_A EU) (hp_A EV) (hp_A EC) (hp_A RK) (hp_A OR) (hp_A PR) (hp_A ST) (hp_A FN) (hp_A rs') (hp_A rf') (hp_A us) (hp_A pc) (hp_A rc) := by
    intro f
    induction f with
    | zero => intro t rs' rf' _ h; omega
    | succ f ih =>
      intro t rs' rf' ht hf hI
      refine pk_le n t (fun z => ?_) (fun z => ?_)
      · have e : t = n := by omega
        rw [e] at hI
        exact ⟨n + 2, outer (n + 2) 0 rs' rf' (by omega) (by omega) (hp_YR0 hI)⟩
      · have h16 : vp_in (nI t) 16 := pk_in t 16 (by omega)
        refine ⟨h16, hp_nu (v := 0) (by omega) ⟨h16, hp_nu (v := 0) (by omega) (hp_n1 (ih (t + 1) _ _ (by omega) (by omega) (fun x hx => ?_)))⟩⟩
        by_cases e : x = t
        · subst e; rw [hp_us]
        · rw [hp_un e]; exact hI x (by omega)
  exact ⟨n + 1, init (n + 1) 0 rs rf (by omega) (by omega) (fun x hx => by omega)⟩
theorem y_count {post : Int32 → SY → Prop} {c : Nat} (hn : n ≤ 16) (hc : c < 2 ^ 31) (hF : ∀ t, t < n → rf t ≤ 4800) (h : post (nI (hp_ct rf c n)) (nI P, cp, nI n, nI m, pl, nI c, mk, hp_A W, hp_A D, hp_A EU, hp_A EV, hp_A EC, hp_A RK, hp_A OR, hp_A PR, hp_A ST, hp_A FN, hp_A rs, hp_A rf, hp_A us, hp_A pc, hp_A rc)) : ∃ f, wY_run_39 post (nI P) cp (nI n) (nI m) pl (nI c) mk (hp_A W) (hp_A D) (hp_A EU) (hp_A EV) (hp_A EC) (hp_A RK) (hp_A OR) (hp_A PR) (hp_A ST) (hp_A FN) (hp_A rs) (hp_A rf) (hp_A us) (hp_A pc) (hp_A rc) f 0 0 := by
  have key : ∀ f t, t ≤ n → n - t < f → wY_run_39 post (nI P) cp (nI n) (nI m) pl (nI c) mk (hp_A W) (hp_A D) (hp_A EU) (hp_A EV) (hp_A EC) (hp_A RK) (hp_A OR) (hp_A PR) (hp_A ST) (hp_A FN) (hp_A rs) (hp_A rf) (hp_A us) (hp_A pc) (hp_A rc) f (nI (hp_ct rf c t)) (nI t) := by
    intro f
    induction f with
    | zero => intro t _ h; omega
    | succ f ih =>
      intro t ht hf
      refine pk_le n t (fun z => ?_) (fun z => ?_)
      · have e : t = n := by omega
        rw [e]
        exact h
      · have b := hF t z
        have nx := ih (t + 1) (by omega) (by omega)
        refine ⟨pk_in t 16 (by omega), pk_lt c (rf t) (fun w => hp_n1 ?_) (fun w => hp_n1 (hp_n1 ?_)) (hy := hp_rd (by omega))⟩
        · rw [hp_ct, if_neg (by omega)] at nx
          exact nx
        · rw [hp_ct, if_pos w] at nx
          exact nx
  exact ⟨n + 1, key (n + 1) 0 (by omega) (by omega)⟩
/-! ===== the reference: an edge ===== -/
theorem y_addEdge {post : Int32 → SY → Prop} {u v c : Nat} {S : Nat → Prop} (hn : n ≤ 16) (hm : m ≤ 32) (hu : u < n) (hv : v < n) (hc : c ≤ 100) (hE : ∀ e, e < m → EU e < n ∧ EV e < n) (hS : hp_RR n m EU EV v S)
    (h3 : (∃ e, e < m ∧ EU e = u ∧ EV e = v) → post (-3) (nI P, cp, nI n, nI m, pl, ck, mk, hp_A W, hp_A D, hp_A EU, hp_A EV, hp_A EC, hp_A RK, hp_A OR, hp_A PR, hp_A ST, hp_A FN, hp_A rs, hp_A rf, hp_A us, hp_A pc, hp_A rc))
    (h2 : (∀ e, e < m → ¬ (EU e = u ∧ EV e = v)) → m = 32 → post (-2) (nI P, cp, nI n, nI m, pl, ck, mk, hp_A W, hp_A D, hp_A EU, hp_A EV, hp_A EC, hp_A RK, hp_A OR, hp_A PR, hp_A ST, hp_A FN, hp_A rs, hp_A rf, hp_A us, hp_A pc, hp_A rc))
    (h4 : (∀ e, e < m → ¬ (EU e = u ∧ EV e = v)) → m ≠ 32 → S u → ∀ rc', post (-4) (nI P, cp, nI n, nI m, pl, ck, mk, hp_A W, hp_A D, hp_A EU, hp_A EV, hp_A EC, hp_A RK, hp_A OR, hp_A PR, hp_A ST, hp_A FN, hp_A rs, hp_A rf, hp_A us, hp_A pc, hp_A rc'))
    (h0 : (∀ e, e < m → ¬ (EU e = u ∧ EV e = v)) → m ≠ 32 → ¬ S u → ∀ rc', post (nI m) (nI P, cp, nI n, nI (m + 1), 0, 0, mk, hp_A W, hp_A D, hp_A (hp_u EU m u), hp_A (hp_u EV m v), hp_A (hp_u EC m c), hp_A RK, hp_A OR, hp_A PR, hp_A ST, hp_A FN, hp_A rs, hp_A rf, hp_A us, hp_A pc, hp_A rc')) :
    wpY_addEdge post (nI P, cp, nI n, nI m, pl, ck, mk, hp_A W, hp_A D, hp_A EU, hp_A EV, hp_A EC, hp_A RK, hp_A OR, hp_A PR, hp_A ST, hp_A FN, hp_A rs, hp_A rf, hp_A us, hp_A pc, hp_A rc) (nI u) (nI v) (nI c) := by
  have u16 : vp_in (nI u) 16 := pk_in u 16 (by omega)
  have v16 : vp_in (nI v) 16 := pk_in v 16 (by omega)
  have l149 : ∀ (S0 : Nat → Prop) (k : Nat) (J : Int32 → (Nat → Int32) → (Nat → Int32) → (Nat → Int32) → (Nat → Int32) → (Nat → Int32) → (Nat → Int32) → (Nat → Int32) → (Nat → Int32) → (Nat → Int32) → (Nat → Int32) → (Nat → Int32) → (Nat → Int32) → (Nat → Int32) → (Nat → Int32) → (Nat → Int32) → Prop), (∀ T g, (∀ j, j < n → g j ≤ 1 ∧ (g j = 1 ↔ T j)) → hp_RI n m EU EV v S0 m T → J (nI (k + 1)) (hp_A W) (hp_A D) (hp_A EU) (hp_A EV) (hp_A EC) (hp_A RK) (hp_A OR) (hp_A PR) (hp_A ST) (hp_A FN) (hp_A rs) (hp_A rf) (hp_A us) (hp_A pc) (hp_A g)) →
      ∀ f i T g, i ≤ m → m - i < f → (∀ j, j < n → g j ≤ 1 ∧ (g j = 1 ↔ T j)) → hp_RI n m EU EV v S0 i T → wY_addEdge_149 post J (nI u) (nI v) (nI c) (nI k) (nI P) cp (nI n) (nI m) pl ck mk f (nI i) (hp_A W) (hp_A D) (hp_A EU) (hp_A EV) (hp_A EC) (hp_A RK) (hp_A OR) (hp_A PR) (hp_A ST) (hp_A FN) (hp_A rs) (hp_A rf) (hp_A us) (hp_A pc) (hp_A g) := by
    intro S0 k J hJ f
    induction f with
    | zero => intro i T g _ h; omega
    | succ f ih =>
      intro i T g hi hf hg hI
      refine pk_le m i (fun z => ?_) (fun z => ?_)
      · have e : i = m := by omega
        rw [e] at hI
        exact hp_n1 (hJ T g hg hI)
      · obtain ⟨e1, e2⟩ := hE i z
        have hi32 : vp_in (nI i) 32 := pk_in i 32 (by omega)
        refine ⟨hi32, ?_⟩
        rw [hp_rd (f := EU) (j := i) (by omega), hp_rd (f := EV) (j := i) (by omega)]
        refine ⟨pk_in (EU i) 16 (by omega), hp_z (by omega) (hg _ e1).1 (hg _ e1).2 (fun w => hp_n1 (ih (i + 1) T g (by omega) (by omega) hg (hp_RIn hI w))) (fun w => ⟨hi32, pk_in (EV i) 16 (by omega), hp_nuB1 (by omega) (hp_n1 (ih (i + 1) (fun j => T j ∨ j = EV i) _ (by omega) (by omega) (fun j hj => ?_) (hp_RIs hI z e2 w)))⟩)⟩
        by_cases e : j = EV i
        · subst e
          rw [hp_us]
          exact ⟨Nat.le_refl _, fun _ => Or.inr rfl, fun _ => rfl⟩
        · rw [hp_un e]
          exact ⟨(hg j hj).1, fun q => Or.inl ((hg j hj).2.mp q), fun q => (hg j hj).2.mpr (q.elim id (fun q => absurd q e))⟩
  have l137 : (∀ e, e < m → ¬ (EU e = u ∧ EV e = v)) → m ≠ 32 → ∀ f k T g, k ≤ n → n - k < f → (∀ j, j < n → g j ≤ 1 ∧ (g j = 1 ↔ T j)) → hp_RO n m EU EV v k T → wY_addEdge_137 post (nI u) (nI v) (nI c) (nI P) cp (nI n) (nI m) pl ck mk f (nI k) (hp_A W) (hp_A D) (hp_A EU) (hp_A EV) (hp_A EC) (hp_A RK) (hp_A OR) (hp_A PR) (hp_A ST) (hp_A FN) (hp_A rs) (hp_A rf) (hp_A us) (hp_A pc) (hp_A g) := by
    intro hd hm32 f
    induction f with
    | zero => intro k T g _ h; omega
    | succ f ih =>
      intro k T g hk hf hg hO
      refine pk_le n k (fun z => ?_) (fun z => ?_)
      · have e : k = n := by omega
        rw [e] at hO
        have hT := hp_RRu (hp_ROe hO) hS u
        have m32 : vp_in (nI m) 32 := pk_in m 32 (by omega)
        refine ⟨u16, hp_z (by omega) (hg u hu).1 (hg u hu).2 (fun w => ⟨m32, hp_nu (by omega) ⟨m32, hp_nu (by omega) ⟨m32, hp_nu (by omega) (hp_n1 ?_)⟩⟩⟩) (fun w => h4 hd hm32 (hT.mp w) g)⟩
        have q := h0 hd hm32 (fun y => w (hT.mpr y)) g
        rw [← nI_pred m] at q
        exact q
      · exact ⟨m + 1, l149 T k _ (fun T' g' hg' hI => ih (k + 1) T' g' (by omega) (by omega) hg' (hp_ROs hO hI)) (m + 1) 0 T g (by omega) (by omega) hg (hp_RI0 hO)⟩
  have l104 : (∀ e, e < m → ¬ (EU e = u ∧ EV e = v)) → m ≠ 32 → ∀ f t g, t ≤ n → n - t < f → (∀ j, j < t → g j = 0) → wY_addEdge_104 post (nI u) (nI v) (nI c) (nI P) cp (nI n) (nI m) pl ck mk f (nI t) (hp_A W) (hp_A D) (hp_A EU) (hp_A EV) (hp_A EC) (hp_A RK) (hp_A OR) (hp_A PR) (hp_A ST) (hp_A FN) (hp_A rs) (hp_A rf) (hp_A us) (hp_A pc) (hp_A g) := by
    intro hd hm32 f
    induction f with
    | zero => intro t g _ h; omega
    | succ f ih =>
      intro t g ht hf hI
      refine pk_le n t (fun z => ?_) (fun z => ?_)
      · have e : t = n := by omega
        rw [e] at hI
        refine ⟨v16, hp_nuB1 (by omega) ⟨n + 1, l137 hd hm32 (n + 1) 0 (fun j => j = v) _ (by omega) (by omega) (fun j hj => ?_) (hp_RO0 hv)⟩⟩
        by_cases e : j = v
        · subst e
          rw [hp_us]
          exact ⟨Nat.le_refl _, fun _ => rfl, fun _ => rfl⟩
        · rw [hp_un e, hI j hj]
          exact ⟨Nat.zero_le _, fun q => absurd q (by decide), fun q => absurd q e⟩
      · refine ⟨pk_in t 16 (by omega), hp_nuB0 (by omega) (hp_n1 (ih (t + 1) _ (by omega) (by omega) (fun x hx => ?_)))⟩
        by_cases e : x = t
        · subst e; rw [hp_us]
        · rw [hp_un e]; exact hI x (by omega)
  have l41 : ∀ f i, i ≤ m → m - i < f → (∀ e, e < i → ¬ (EU e = u ∧ EV e = v)) → wY_addEdge_41 post (nI u) (nI v) (nI c) (nI P) cp (nI n) (nI m) pl ck mk (hp_A W) (hp_A D) (hp_A EU) (hp_A EV) (hp_A EC) (hp_A RK) (hp_A OR) (hp_A PR) (hp_A ST) (hp_A FN) (hp_A rs) (hp_A rf) (hp_A us) (hp_A pc) (hp_A rc) f (nI i) := by
    intro f
    induction f with
    | zero => intro i _ h; omega
    | succ f ih =>
      intro i hi hf hI
      refine pk_le m i (fun z => ?_) (fun z => ?_)
      · have e : i = m := by omega
        rw [e] at hI
        refine pk_eq m 32 (fun w => h2 hI w) (fun w => pk_eq u v (fun y => ?_) (fun y => ⟨n + 1, l104 hI w (n + 1) 0 rc (by omega) (by omega) (fun j hj => by omega)⟩))
        exact h4 hI w (by rw [y]; exact hS.1) rc
      · obtain ⟨e1, e2⟩ := hE i z
        have nx : ¬ (EU i = u ∧ EV i = v) → wY_addEdge_41 post (nI u) (nI v) (nI c) (nI P) cp (nI n) (nI m) pl ck mk (hp_A W) (hp_A D) (hp_A EU) (hp_A EV) (hp_A EC) (hp_A RK) (hp_A OR) (hp_A PR) (hp_A ST) (hp_A FN) (hp_A rs) (hp_A rf) (hp_A us) (hp_A pc) (hp_A rc) f (nI (i + 1)) := fun q => ih (i + 1) (by omega) (by omega) (lt_s hI q)
        have hi32 : vp_in (nI i) 32 := pk_in i 32 (by omega)
        exact ⟨hi32, pk_eq (EU i) u (fun a => ⟨hi32, pk_eq (EV i) v (fun b => h3 ⟨i, z, a, b⟩) (fun b => hp_n1 (nx fun q => b q.2)) (hx := hp_rd (by omega))⟩) (fun a => hp_n1 (nx fun q => a q.1)) (hx := hp_rd (by omega))⟩
  exact br_f (nI_pos (by omega)) (br_f (nI_ge hu (by omega)) (br_f (nI_pos (by omega)) (br_t (nI_lt hv (by omega)) (br_f (nI_pos (by omega)) (br_t (nI_le (b := 100) hc (by decide)) ⟨m + 1, l41 (m + 1) 0 (by omega) (by omega) (fun e he => by omega)⟩)))))
end
end
section
/-! ===== the relation ===== -/
def hp_I (P cap n m nw : Nat) (W D EU EV EC : Nat → Nat) : Prop :=
  hp_G P n m W EU EV EC ∧ cap ≤ 16 ∧ n ≤ cap ∧ nw ≤ 100000 ∧ (∀ t, t < n → D t ≤ 100) ∧ (∀ i, n * 4 ≤ i → W i = 0)
def hp_Pn (P n m : Nat) (W D EU EV EC PR ST FN BS RS RF : Nat → Nat) : Prop :=
  hp_Pl P n m W EU EV PR ST FN ∧ hp_So n ST BS ∧ hp_Rp n m W D EU EV EC PR ST RS RF
/-- the same graph, the same plan; where there is a plan, the class holds its replay ready -/
def i_Rel (_ : Nat) (u : SX) (v : SY) : Prop :=
  ∃ (P cap n m pl sp nw : Nat) (W D EU EV EC RK OR PR ST FN BS PF RS RF rs rf us pc rc : Nat → Nat),
    u = (nI P, nI cap, nI n, nI m, nI pl, nI sp, nI nw, hp_A W, hp_A D, hp_A EU, hp_A EV, hp_A EC, hp_A RK, hp_A OR, hp_A PR, hp_A ST, hp_A FN, hp_A BS, hp_A PF, hp_A RS, hp_A RF) ∧ v = (nI P, nI cap, nI n, nI m, nI pl, nI nw, nI sp, hp_A W, hp_A D, hp_A EU, hp_A EV, hp_A EC, hp_A RK, hp_A OR, hp_A PR, hp_A ST, hp_A FN, hp_A rs, hp_A rf, hp_A us, hp_A pc, hp_A rc) ∧
    hp_I P cap n m nw W D EU EV EC ∧ pl ≤ 1 ∧ (pl = 1 → hp_Pn P n m W D EU EV EC PR ST FN BS RS RF)
theorem i_up {k : Nat} {u : SX} {v : SY} (h : i_Rel k u v) : i_Rel (k + 5) u v := h
theorem hp_pl {pl : Nat} (h : pl ≤ 1) (z : ¬ nI pl = 0) : pl = 1 := by
  by_cases e : pl = 0
  · subst e; exact absurd nI_0 z
  · omega
theorem x_clampM {p q : Int32 → Prop} (h : ∀ r, p r → q r) {a b c : Int32} (g : wpX_clamp p a b c) : wpX_clamp q a b c :=
  ⟨fun z => ⟨fun y => h _ ((g.1 z).1 y), fun y => h _ ((g.1 z).2 y)⟩, fun z => h _ (g.2 z)⟩
theorem hp_cl {v : Int32} {M : Nat} (hM : M < 2 ^ 31) (h1 : 1 ≤ v) (h2 : v ≤ nI M) : ∃ j, 1 ≤ j ∧ j ≤ M ∧ v = nI j := by
  have h0 : ¬ v < 0 := fun q => absurd (Int32.lt_of_le_of_lt h1 q) (by decide)
  obtain ⟨j, hj, rfl⟩ := nI_of h0
  have a : nI 1 ≤ nI j := h1
  rw [nI_leI (by decide) hj] at a
  rw [nI_leI hj hM] at h2
  exact ⟨j, a, h2, rfl⟩
theorem hp_init {P cap : Nat} (h1 : 1 ≤ P) (h2 : P ≤ 4) (h3 : cap ≤ 16) :
    i_Rel 2 (nI P, nI cap, 0, 0, 0, 0, 0, (fun _ => 0), (fun _ => 0), (fun _ => 0), (fun _ => 0), (fun _ => 0), (fun _ => 0), (fun _ => 0), (fun _ => 0), (fun _ => 0), (fun _ => 0), (fun _ => 0), (fun _ => 0), (fun _ => 0), (fun _ => 0))
      (nI P, nI cap, 0, 0, 0, 0, 0, (fun _ => 0), (fun _ => 0), (fun _ => 0), (fun _ => 0), (fun _ => 0), (fun _ => 0), (fun _ => 0), (fun _ => 0), (fun _ => 0), (fun _ => 0), (fun _ => 0), (fun _ => 0), (fun _ => 0), (fun _ => 0), (fun _ => 0)) := by
  refine ⟨P, cap, 0, 0, 0, 0, 0, (fun _ => 0), (fun _ => 0), (fun _ => 0), (fun _ => 0), (fun _ => 0), (fun _ => 0), (fun _ => 0), (fun _ => 0), (fun _ => 0), (fun _ => 0), (fun _ => 0), (fun _ => 0), (fun _ => 0), (fun _ => 0), (fun _ => 0), (fun _ => 0), (fun _ => 0), (fun _ => 0), (fun _ => 0), ?_, ?_, ⟨⟨h1, h2, by omega, by omega, fun t p ht => by omega, fun e he => by omega, fun _ => 0, fun e he => by omega⟩, h3, by omega, by omega, fun t ht => by omega, fun _ _ => rfl⟩, by omega, fun q => by omega⟩
  · rw [hp_A0, nI_0]
  · rw [hp_A0, nI_0]
theorem i_vc0 (k0 : Int32) (k1 : Int32) : wpX_init (fun u => wpY_init (fun v => i_Rel 2 u v) k0 k1) k0 k1 := by
  have fin : ∀ P, 1 ≤ P → P ≤ 4 → wpX_clamp (fun r => wY_init_144 (fun v => i_Rel 2 (nI P, r, 0, 0, 0, 0, 0, (fun _ => 0), (fun _ => 0), (fun _ => 0), (fun _ => 0), (fun _ => 0), (fun _ => 0), (fun _ => 0), (fun _ => 0), (fun _ => 0), (fun _ => 0), (fun _ => 0), (fun _ => 0), (fun _ => 0), (fun _ => 0)) v) k1 (nI P) 0 0 0 0 0 0 0 (fun _ => 0) (fun _ => 0) (fun _ => 0) (fun _ => 0) (fun _ => 0) (fun _ => 0) (fun _ => 0) (fun _ => 0) (fun _ => 0) (fun _ => 0) (fun _ => 0) (fun _ => 0) (fun _ => 0) (fun _ => 0) (fun _ => 0)) k1 1 16 := by
    intro P h1 h2
    refine br_c (fun a => br_c (fun b => ?_) (fun b => ?_)) (fun a => ?_)
    · obtain ⟨j, j1, j2, e⟩ := hp_cl (M := 16) (by decide) a b
      subst e
      exact br_t a (br_t b (hp_init h1 h2 j2))
    · exact br_t a (br_f b (hp_init (cap := 16) h1 h2 (by omega)))
    · exact br_f a (hp_init (cap := 1) h1 h2 (by omega))
  by_cases a : 1 ≤ k0
  · by_cases b : k0 ≤ 4
    · obtain ⟨j, j1, j2, e⟩ := hp_cl (M := 4) (by decide) a b
      subst e
      exact br_t a (br_t b (x_clampM (fun r h => br_t a (br_t b h)) (fin j j1 j2)))
    · exact br_t a (br_f b (x_clampM (fun r h => br_t a (br_f b h)) (fin 4 (by omega) (by omega))))
  · exact br_f a (x_clampM (fun r h => br_f a h) (fin 1 (by omega) (by omega)))
section
variable {P n m : Nat} {cp pl sp nw : Int32} {W D EU EV EC RK OR PR ST FN BS PF RS RF : Nat → Nat}
/-! ===== a task ===== -/
theorem hp_gd {c : Int32} (h1 : ¬ c < 1) (h2 : ¬ 100 < c) : ∃ d, 1 ≤ d ∧ d ≤ 100 ∧ c = nI d := by
  have h0 : ¬ c < 0 := fun q => h1 (Int32.lt_trans q (by decide))
  obtain ⟨d, hd, rfl⟩ := nI_of h0
  have a : ¬ d < 1 := fun q => h1 (nI_lt (b := 1) q (by decide))
  have b : ¬ 100 < d := fun q => h2 (nI_lt (a := 100) q hd)
  exact ⟨d, by omega, by omega, rfl⟩
def hp_B (c : Int32) : Prop := c < 1 ∨ 100 < c
theorem hp_dd (P p : Nat) {c : Int32} (h : p < P → ¬ hp_B c) : ∃ d, (p < P → c = nI d ∧ 1 ≤ d ∧ d ≤ 100) ∧ (P ≤ p → d = 0) := by
  by_cases z : p < P
  · have q := h z
    obtain ⟨d, d1, d2, d3⟩ := hp_gd (fun w => q (Or.inl w)) (fun w => q (Or.inr w))
    exact ⟨d, fun _ => ⟨d3, d1, d2⟩, fun w => by omega⟩
  · exact ⟨0, fun w => by omega, fun _ => rfl⟩
theorem x_costFits {post : Int32 → Prop} {p : Nat} {c : Int32} (hP : P ≤ 4) (hp : p < 4) (h1 : (p < P → ¬ hp_B c) → post 1) (h0 : p < P → hp_B c → post 0) : wpX_costFits post (nI P, cp, nI n, nI m, pl, sp, nw, hp_A W, hp_A D, hp_A EU, hp_A EV, hp_A EC, hp_A RK, hp_A OR, hp_A PR, hp_A ST, hp_A FN, hp_A BS, hp_A PF, hp_A RS, hp_A RF) (nI p) c :=
  pk_le P p (fun z => h1 (fun q => by omega)) (fun z => x_inRange (fun q => br_t rfl (h0 z q)) (fun q1 q2 => br_f (by decide) (h1 (fun _ w => w.elim q1 q2))))
theorem x_storeCost {post : SX → Prop} {t p d : Nat} {c : Int32} (hP : P ≤ 4) (ht : t < 16) (hp : p < 4) (hW : W (t * 4 + p) = 0) (h1 : p < P → c = nI d) (h0 : P ≤ p → d = 0) (h : post (nI P, cp, nI n, nI m, pl, sp, nw, hp_A (hp_u W (t * 4 + p) d), hp_A D, hp_A EU, hp_A EV, hp_A EC, hp_A RK, hp_A OR, hp_A PR, hp_A ST, hp_A FN, hp_A BS, hp_A PF, hp_A RS, hp_A RF)) : wpX_storeCost post (nI P, cp, nI n, nI m, pl, sp, nw, hp_A W, hp_A D, hp_A EU, hp_A EV, hp_A EC, hp_A RK, hp_A OR, hp_A PR, hp_A ST, hp_A FN, hp_A BS, hp_A PF, hp_A RS, hp_A RF) (nI t) (nI p) c := by
  refine pk_le P p (fun z => ?_) (fun z => ?_)
  · rw [h0 z, hp_ueq hW] at h
    exact h
  · rw [hp_ix, h1 z]
    exact ⟨pk_in (t * 4 + p) 64 (by omega), hp_nu (by omega) h⟩
theorem x_addTaskB {post : Int32 → SX → Prop} {c0 c1 c2 c3 : Int32} {cap : Nat} (hP : P ≤ 4) (hc : cap ≤ 16) (hn : n < cap) (hb : ¬ ((0 < P → ¬ hp_B c0) ∧ (1 < P → ¬ hp_B c1) ∧ (2 < P → ¬ hp_B c2) ∧ (3 < P → ¬ hp_B c3))) (h : post (-1) (nI P, nI cap, nI n, nI m, pl, sp, nw, hp_A W, hp_A D, hp_A EU, hp_A EV, hp_A EC, hp_A RK, hp_A OR, hp_A PR, hp_A ST, hp_A FN, hp_A BS, hp_A PF, hp_A RS, hp_A RF)) : wpX_addTask post (nI P, nI cap, nI n, nI m, pl, sp, nw, hp_A W, hp_A D, hp_A EU, hp_A EV, hp_A EC, hp_A RK, hp_A OR, hp_A PR, hp_A ST, hp_A FN, hp_A BS, hp_A PF, hp_A RS, hp_A RF) c0 c1 c2 c3 := by
  refine pk_eq n cap (fun z => by omega) (fun z => ?_)
  refine x_costFits (p := 0) hP (by omega) (fun g0 => br_f (by decide) ?_) (fun _ _ => br_t rfl h)
  refine x_costFits (p := 1) hP (by omega) (fun g1 => br_f (by decide) ?_) (fun _ _ => br_t rfl h)
  refine x_costFits (p := 2) hP (by omega) (fun g2 => br_f (by decide) ?_) (fun _ _ => br_t rfl h)
  exact x_costFits (p := 3) hP (by omega) (fun g3 => absurd ⟨g0, g1, g2, g3⟩ hb) (fun _ _ => br_t rfl h)
theorem x_addTask {post : Int32 → SX → Prop} {c0 c1 c2 c3 : Int32} {cap d0 d1 d2 d3 : Nat} (hP : P ≤ 4) (hc : cap ≤ 16) (hn : n < cap) (hW : ∀ i, n * 4 ≤ i → W i = 0) (g0 : 0 < P → ¬ hp_B c0) (g1 : 1 < P → ¬ hp_B c1) (g2 : 2 < P → ¬ hp_B c2) (g3 : 3 < P → ¬ hp_B c3)
    (e0 : (0 < P → c0 = nI d0) ∧ (P ≤ 0 → d0 = 0)) (e1 : (1 < P → c1 = nI d1) ∧ (P ≤ 1 → d1 = 0)) (e2 : (2 < P → c2 = nI d2) ∧ (P ≤ 2 → d2 = 0)) (e3 : (3 < P → c3 = nI d3) ∧ (P ≤ 3 → d3 = 0))
    (h : post (nI n) (nI P, nI cap, nI (n + 1), nI m, 0, sp, 0, hp_A (hp_u (hp_u (hp_u (hp_u W (n * 4) d0) (n * 4 + 1) d1) (n * 4 + 2) d2) (n * 4 + 3) d3), hp_A (hp_u D n 0), hp_A EU, hp_A EV, hp_A EC, hp_A RK, hp_A OR, hp_A PR, hp_A ST, hp_A FN, hp_A BS, hp_A PF, hp_A RS, hp_A RF)) : wpX_addTask post (nI P, nI cap, nI n, nI m, pl, sp, nw, hp_A W, hp_A D, hp_A EU, hp_A EV, hp_A EC, hp_A RK, hp_A OR, hp_A PR, hp_A ST, hp_A FN, hp_A BS, hp_A PF, hp_A RS, hp_A RF) c0 c1 c2 c3 := by
  refine pk_eq n cap (fun z => by omega) (fun z => ?_)
  refine x_costFits (p := 0) hP (by omega) (fun _ => br_f (by decide) ?_) (fun a b => absurd b (g0 a))
  refine x_costFits (p := 1) hP (by omega) (fun _ => br_f (by decide) ?_) (fun a b => absurd b (g1 a))
  refine x_costFits (p := 2) hP (by omega) (fun _ => br_f (by decide) ?_) (fun a b => absurd b (g2 a))
  refine x_costFits (p := 3) hP (by omega) (fun _ => br_f (by decide) ?_) (fun a b => absurd b (g3 a))
  refine x_storeCost (p := 0) (d := d0) hP (by omega) (by omega) (hW _ (by omega)) e0.1 e0.2 ?_
  refine x_storeCost (p := 1) (d := d1) hP (by omega) (by omega) (by rw [hp_un (by omega)]; exact hW _ (by omega)) e1.1 e1.2 ?_
  refine x_storeCost (p := 2) (d := d2) hP (by omega) (by omega) (by rw [hp_un (by omega), hp_un (by omega)]; exact hW _ (by omega)) e2.1 e2.2 ?_
  refine x_storeCost (p := 3) (d := d3) hP (by omega) (by omega) (by rw [hp_un (by omega), hp_un (by omega), hp_un (by omega)]; exact hW _ (by omega)) e3.1 e3.2 ?_
  exact ⟨pk_in n 16 (by omega), hp_nu (v := 0) (by omega) (hp_n1 h)⟩
end
section
variable {P n m : Nat} {cp pl ck mk : Int32} {W D EU EV EC RK OR PR ST FN rs rf us pc rc : Nat → Nat}
theorem y_addTaskB {post : Int32 → SY → Prop} {c0 c1 c2 c3 : Int32} {cap : Nat} (hP1 : 1 ≤ P) (hP : P ≤ 4) (hc : cap ≤ 16) (hn : n < cap) (hb : ¬ ((0 < P → ¬ hp_B c0) ∧ (1 < P → ¬ hp_B c1) ∧ (2 < P → ¬ hp_B c2) ∧ (3 < P → ¬ hp_B c3))) (h : post (-1) (nI P, nI cap, nI n, nI m, pl, ck, mk, hp_A W, hp_A D, hp_A EU, hp_A EV, hp_A EC, hp_A RK, hp_A OR, hp_A PR, hp_A ST, hp_A FN, hp_A rs, hp_A rf, hp_A us, hp_A pc, hp_A rc)) : wpY_addTask post (nI P, nI cap, nI n, nI m, pl, ck, mk, hp_A W, hp_A D, hp_A EU, hp_A EV, hp_A EC, hp_A RK, hp_A OR, hp_A PR, hp_A ST, hp_A FN, hp_A rs, hp_A rf, hp_A us, hp_A pc, hp_A rc) c0 c1 c2 c3 := by
  refine pk_eq n cap (fun z => by omega) (fun z => ?_)
  have bad : ∀ {c : Int32} {Q : Int32 → Prop}, (hp_B c → Q 1) → (¬ hp_B c → Q 0) → wpY_bad Q (nI P, nI cap, nI n, nI m, pl, ck, mk, hp_A W, hp_A D, hp_A EU, hp_A EV, hp_A EC, hp_A RK, hp_A OR, hp_A PR, hp_A ST, hp_A FN, hp_A rs, hp_A rf, hp_A us, hp_A pc, hp_A rc) c := fun h1 h0 => y_bad h1 (fun q1 q2 => h0 (fun w => w.elim q1 q2))
  have n1 : ¬ (1 : Int32) = 0 := by decide
  have k60 : (0 < P → ¬ hp_B c0) → (1 < P → ¬ hp_B c1) → (2 < P → ¬ hp_B c2) → wY_addTask_60 post c0 c1 c2 c3 (nI P) (nI cap) (nI n) (nI m) pl ck mk (hp_A W) (hp_A D) (hp_A EU) (hp_A EV) (hp_A EC) (hp_A RK) (hp_A OR) (hp_A PR) (hp_A ST) (hp_A FN) (hp_A rs) (hp_A rf) (hp_A us) (hp_A pc) (hp_A rc) := fun g0 g1 g2 =>
    pk_lt P 4 (fun w => absurd ⟨g0, g1, g2, fun q => by omega⟩ hb) (fun w => bad (fun q => br_f n1 h) (fun q => absurd ⟨g0, g1, g2, fun _ => q⟩ hb))
  have k42 : (0 < P → ¬ hp_B c0) → (1 < P → ¬ hp_B c1) → wY_addTask_42 post c0 c1 c2 c3 (nI P) (nI cap) (nI n) (nI m) pl ck mk (hp_A W) (hp_A D) (hp_A EU) (hp_A EV) (hp_A EC) (hp_A RK) (hp_A OR) (hp_A PR) (hp_A ST) (hp_A FN) (hp_A rs) (hp_A rf) (hp_A us) (hp_A pc) (hp_A rc) := fun g0 g1 =>
    pk_lt P 3 (fun w => k60 g0 g1 (fun q => by omega)) (fun w => bad (fun q => br_f n1 h) (fun q => br_t rfl (k60 g0 g1 (fun _ => q))))
  exact bad (fun q => br_f n1 h) (fun q0 => br_t rfl (pk_lt P 2 (fun w => k42 (fun _ => q0) (fun q => by omega)) (fun w => bad (fun q => br_f n1 h) (fun q => br_t rfl (k42 (fun _ => q0) (fun _ => q))))))
theorem y_addTask {post : Int32 → SY → Prop} {c0 c1 c2 c3 : Int32} {cap d0 d1 d2 d3 : Nat} (hP1 : 1 ≤ P) (hP : P ≤ 4) (hc : cap ≤ 16) (hn : n < cap) (g0 : 0 < P → ¬ hp_B c0) (g1 : 1 < P → ¬ hp_B c1) (g2 : 2 < P → ¬ hp_B c2) (g3 : 3 < P → ¬ hp_B c3)
    (e0 : (0 < P → c0 = nI d0) ∧ (P ≤ 0 → d0 = 0)) (e1 : (1 < P → c1 = nI d1) ∧ (P ≤ 1 → d1 = 0)) (e2 : (2 < P → c2 = nI d2) ∧ (P ≤ 2 → d2 = 0)) (e3 : (3 < P → c3 = nI d3) ∧ (P ≤ 3 → d3 = 0))
    (h : post (nI n) (nI P, nI cap, nI (n + 1), nI m, 0, 0, mk, hp_A (hp_u (hp_u (hp_u (hp_u W (n * 4) d0) (n * 4 + 1) d1) (n * 4 + 2) d2) (n * 4 + 3) d3), hp_A (hp_u D n 0), hp_A EU, hp_A EV, hp_A EC, hp_A RK, hp_A OR, hp_A PR, hp_A ST, hp_A FN, hp_A rs, hp_A rf, hp_A us, hp_A pc, hp_A rc)) : wpY_addTask post (nI P, nI cap, nI n, nI m, pl, ck, mk, hp_A W, hp_A D, hp_A EU, hp_A EV, hp_A EC, hp_A RK, hp_A OR, hp_A PR, hp_A ST, hp_A FN, hp_A rs, hp_A rf, hp_A us, hp_A pc, hp_A rc) c0 c1 c2 c3 := by
  refine pk_eq n cap (fun z => by omega) (fun z => ?_)
  have good : ∀ {c : Int32} {Q : Int32 → Prop}, ¬ hp_B c → Q 0 → wpY_bad Q (nI P, nI cap, nI n, nI m, pl, ck, mk, hp_A W, hp_A D, hp_A EU, hp_A EV, hp_A EC, hp_A RK, hp_A OR, hp_A PR, hp_A ST, hp_A FN, hp_A rs, hp_A rf, hp_A us, hp_A pc, hp_A rc) c := fun hn h0 => y_bad (fun q => absurd q hn) (fun _ _ => h0)
  have mul4 : nI n * 4 = nI (n * 4) := pk_mul n 4
  have add4 : ∀ j, nI n * 4 + nI j = nI (n * 4 + j) := fun j => hp_ix n j
  have k169 : wY_addTask_169 post (nI d3) (nI n * 4 + 3) (nI P) (nI cap) (nI n) (nI m) pl ck mk (hp_A (hp_u (hp_u (hp_u W (n * 4) d0) (n * 4 + 1) d1) (n * 4 + 2) d2)) (hp_A D) (hp_A EU) (hp_A EV) (hp_A EC) (hp_A RK) (hp_A OR) (hp_A PR) (hp_A ST) (hp_A FN) (hp_A rs) (hp_A rf) (hp_A us) (hp_A pc) (hp_A rc) := by
    rw [show nI n * 4 + 3 = nI (n * 4 + 3) from add4 3]
    refine ⟨pk_in (n * 4 + 3) 64 (by omega), hp_nu (by omega) ⟨pk_in n 16 (by omega), hp_nu (v := 0) (by omega) (hp_n1 ?_)⟩⟩
    rw [← nI_pred n] at h
    exact h
  have k142 : wY_addTask_142 post c3 (nI d2) (nI n * 4 + 2) (nI P) (nI cap) (nI n) (nI m) pl ck mk (hp_A (hp_u (hp_u W (n * 4) d0) (n * 4 + 1) d1)) (hp_A D) (hp_A EU) (hp_A EV) (hp_A EC) (hp_A RK) (hp_A OR) (hp_A PR) (hp_A ST) (hp_A FN) (hp_A rs) (hp_A rf) (hp_A us) (hp_A pc) (hp_A rc) := by
    rw [show nI n * 4 + 2 = nI (n * 4 + 2) from add4 2]
    refine ⟨pk_in (n * 4 + 2) 64 (by omega), hp_nu (by omega) (pk_lt P 4 (fun w => ?_) (fun w => ?_))⟩
    · rw [e3.2 (by omega)] at k169
      exact k169
    · rw [e3.1 (by omega)]
      exact k169
  have k116 : wY_addTask_116 post c2 c3 (nI d1) (nI n * 4 + 1) (nI P) (nI cap) (nI n) (nI m) pl ck mk (hp_A (hp_u W (n * 4) d0)) (hp_A D) (hp_A EU) (hp_A EV) (hp_A EC) (hp_A RK) (hp_A OR) (hp_A PR) (hp_A ST) (hp_A FN) (hp_A rs) (hp_A rf) (hp_A us) (hp_A pc) (hp_A rc) := by
    rw [show nI n * 4 + 1 = nI (n * 4 + 1) from add4 1]
    refine ⟨pk_in (n * 4 + 1) 64 (by omega), hp_nu (by omega) (pk_lt P 3 (fun w => ?_) (fun w => ?_))⟩
    · rw [e2.2 (by omega)] at k142
      exact k142
    · rw [e2.1 (by omega)]
      exact k142
  have k79 : wY_addTask_79 post c0 c1 c2 c3 (nI P) (nI cap) (nI n) (nI m) pl ck mk (hp_A W) (hp_A D) (hp_A EU) (hp_A EV) (hp_A EC) (hp_A RK) (hp_A OR) (hp_A PR) (hp_A ST) (hp_A FN) (hp_A rs) (hp_A rf) (hp_A us) (hp_A pc) (hp_A rc) := by
    unfold wY_addTask_79
    rw [mul4, e0.1 (by omega)]
    refine ⟨pk_in (n * 4) 64 (by omega), hp_nu (by omega) (pk_lt P 2 (fun w => ?_) (fun w => ?_))⟩
    · rw [e1.2 (by omega), mul4] at k116
      exact k116
    · rw [e1.1 (by omega)]
      rw [mul4] at k116
      exact k116
  have k60 : wY_addTask_60 post c0 c1 c2 c3 (nI P) (nI cap) (nI n) (nI m) pl ck mk (hp_A W) (hp_A D) (hp_A EU) (hp_A EV) (hp_A EC) (hp_A RK) (hp_A OR) (hp_A PR) (hp_A ST) (hp_A FN) (hp_A rs) (hp_A rf) (hp_A us) (hp_A pc) (hp_A rc) := pk_lt P 4 (fun w => k79) (fun w => good (g3 (by omega)) (br_t rfl k79))
  have k42 : wY_addTask_42 post c0 c1 c2 c3 (nI P) (nI cap) (nI n) (nI m) pl ck mk (hp_A W) (hp_A D) (hp_A EU) (hp_A EV) (hp_A EC) (hp_A RK) (hp_A OR) (hp_A PR) (hp_A ST) (hp_A FN) (hp_A rs) (hp_A rf) (hp_A us) (hp_A pc) (hp_A rc) := pk_lt P 3 (fun w => k60) (fun w => good (g2 (by omega)) (br_t rfl k60))
  exact good (g0 (by omega)) (br_t rfl (pk_lt P 2 (fun w => k42) (fun w => good (g1 (by omega)) (br_t rfl k42))))
end
end
section
/-! ===== what the owed statements need besides ===== -/
theorem hp_RRe {n m v : Nat} {EU EV : Nat → Nat} (hv : v < n) (hE : ∀ e, e < m → EV e < n) : ∃ S, hp_RR n m EU EV v S := by
  refine ⟨fun j => ∀ C : Nat → Prop, hp_Cl m EU EV C → C v → C j, fun C _ h => h, fun j h => ?_, fun C hC hv j h => h C hC hv, fun e he h C hC hv => hC e he (h C hC hv)⟩
  exact h (fun j => j < n) (fun e he _ => hE e he) hv
theorem hp_addW {P n : Nat} {W : Nat → Nat} {d0 d1 d2 d3 : Nat} (hP : P ≤ 4) (h : ∀ t p, t < n → p < P → 1 ≤ W (t * 4 + p) ∧ W (t * 4 + p) ≤ 100) (h0 : 0 < P → 1 ≤ d0 ∧ d0 ≤ 100) (h1 : 1 < P → 1 ≤ d1 ∧ d1 ≤ 100) (h2 : 2 < P → 1 ≤ d2 ∧ d2 ≤ 100) (h3 : 3 < P → 1 ≤ d3 ∧ d3 ≤ 100) :
    ∀ t p, t < n + 1 → p < P → 1 ≤ hp_u (hp_u (hp_u (hp_u W (n * 4) d0) (n * 4 + 1) d1) (n * 4 + 2) d2) (n * 4 + 3) d3 (t * 4 + p) ∧ hp_u (hp_u (hp_u (hp_u W (n * 4) d0) (n * 4 + 1) d1) (n * 4 + 2) d2) (n * 4 + 3) d3 (t * 4 + p) ≤ 100 := by
  intro t p ht hp
  by_cases e : t = n
  · subst e
    have hp4 : p < 4 := by omega
    rcases (by omega : p = 0 ∨ p = 1 ∨ p = 2 ∨ p = 3) with q | q | q | q
    · subst q
      rw [hp_un (by omega), hp_un (by omega), hp_un (by omega), show t * 4 + 0 = t * 4 from rfl, hp_us]
      exact h0 hp
    · subst q
      rw [hp_un (by omega), hp_un (by omega), hp_us]
      exact h1 hp
    · subst q
      rw [hp_un (by omega), hp_us]
      exact h2 hp
    · subst q
      rw [hp_us]
      exact h3 hp
  · rw [hp_un (by omega), hp_un (by omega), hp_un (by omega), hp_un (by omega)]
    exact h t p (by omega) hp
section
variable {P n m : Nat} {cp pl sp nw : Int32} {W D EU EV EC RK OR PR ST FN BS PF RS RF : Nat → Nat}
theorem x_addEdgeB {post : Int32 → SX → Prop} {v1 v2 v3 : Int32} (hn : n ≤ 16) (hb : v1 < 0 ∨ nI n ≤ v1 ∨ v2 < 0 ∨ nI n ≤ v2 ∨ v3 < 0 ∨ 100 < v3) (h : post (-1) (nI P, cp, nI n, nI m, pl, sp, nw, hp_A W, hp_A D, hp_A EU, hp_A EV, hp_A EC, hp_A RK, hp_A OR, hp_A PR, hp_A ST, hp_A FN, hp_A BS, hp_A PF, hp_A RS, hp_A RF)) : wpX_addEdge post (nI P, cp, nI n, nI m, pl, sp, nw, hp_A W, hp_A D, hp_A EU, hp_A EV, hp_A EC, hp_A RK, hp_A OR, hp_A PR, hp_A ST, hp_A FN, hp_A BS, hp_A PF, hp_A RS, hp_A RF) v1 v2 v3 := by
  unfold wpX_addEdge
  refine x_isTask hn (fun _ => br_t rfl h) (fun t1 h1 e1 => br_f (by decide) ?_)
  refine x_isTask hn (fun _ => br_t rfl h) (fun t2 h2 e2 => br_f (by decide) ?_)
  refine x_inRange (fun _ => br_t rfl h) (fun q1 q2 => ?_)
  subst e1 e2
  rcases hb with w | w | w | w | w | w
  · exact absurd w (nI_pos (by omega))
  · exact absurd w (nI_ge h1 (by omega))
  · exact absurd w (nI_pos (by omega))
  · exact absurd w (nI_ge h2 (by omega))
  · exact absurd w q1
  · exact absurd w q2
theorem x_addEdge {post : Int32 → SX → Prop} {u v c : Nat} {S : Nat → Prop} (hn : n ≤ 16) (hm : m ≤ 32) (hu : u < n) (hv : v < n) (hc : c ≤ 100) (hE : ∀ e, e < m → EU e < n ∧ EV e < n) (hS : hp_RR n m EU EV v S)
    (h3 : (∃ e, e < m ∧ EU e = u ∧ EV e = v) → post (-3) (nI P, cp, nI n, nI m, pl, sp, nw, hp_A W, hp_A D, hp_A EU, hp_A EV, hp_A EC, hp_A RK, hp_A OR, hp_A PR, hp_A ST, hp_A FN, hp_A BS, hp_A PF, hp_A RS, hp_A RF))
    (h2 : (∀ e, e < m → ¬ (EU e = u ∧ EV e = v)) → m = 32 → post (-2) (nI P, cp, nI n, nI m, pl, sp, nw, hp_A W, hp_A D, hp_A EU, hp_A EV, hp_A EC, hp_A RK, hp_A OR, hp_A PR, hp_A ST, hp_A FN, hp_A BS, hp_A PF, hp_A RS, hp_A RF))
    (h4 : (∀ e, e < m → ¬ (EU e = u ∧ EV e = v)) → m ≠ 32 → S u → post (-4) (nI P, cp, nI n, nI m, pl, sp, nw, hp_A W, hp_A D, hp_A EU, hp_A EV, hp_A EC, hp_A RK, hp_A OR, hp_A PR, hp_A ST, hp_A FN, hp_A BS, hp_A PF, hp_A RS, hp_A RF))
    (h0 : (∀ e, e < m → ¬ (EU e = u ∧ EV e = v)) → m ≠ 32 → ¬ S u → post (nI m) (nI P, cp, nI n, nI (m + 1), 0, sp, 0, hp_A W, hp_A D, hp_A (hp_u EU m u), hp_A (hp_u EV m v), hp_A (hp_u EC m c), hp_A RK, hp_A OR, hp_A PR, hp_A ST, hp_A FN, hp_A BS, hp_A PF, hp_A RS, hp_A RF)) :
    wpX_addEdge post (nI P, cp, nI n, nI m, pl, sp, nw, hp_A W, hp_A D, hp_A EU, hp_A EV, hp_A EC, hp_A RK, hp_A OR, hp_A PR, hp_A ST, hp_A FN, hp_A BS, hp_A PF, hp_A RS, hp_A RF) (nI u) (nI v) (nI c) := by
  have n1 : ¬ (1 : Int32) = 0 := by decide
  unfold wpX_addEdge
  refine x_isTask hn (fun q => (q.elim (nI_pos (by omega)) (nI_ge hu (by omega))).elim) (fun _ _ _ => br_f n1 ?_)
  refine x_isTask hn (fun q => (q.elim (nI_pos (by omega)) (nI_ge hv (by omega))).elim) (fun _ _ _ => br_f n1 ?_)
  refine x_inRange (fun q => (q.elim (nI_pos (by omega)) (nI_nlt (b := c) (a := 100) hc (by decide))).elim) (fun _ _ => br_f n1 ?_)
  refine x_hasEdge hm (by omega) (by omega) (fun e he => ⟨by have := (hE e he).1; omega, by have := (hE e he).2; omega⟩) (fun q => br_f n1 (h3 q)) (fun q => br_t rfl ?_)
  refine pk_eq m 32 (fun w => h2 q w) (fun w => ?_)
  have m32 : vp_in (nI m) 32 := pk_in m 32 (by omega)
  refine x_leadsTo hn hm hv hu hE (fun T hT => ⟨fun y => br_f n1 (h4 q w ((hp_RRu hT hS u).mp y)), fun y => br_t rfl ?_⟩)
  exact ⟨m32, hp_nu (by omega) ⟨m32, hp_nu (by omega) ⟨m32, hp_nu (by omega) (hp_n1 (h0 q w (fun z => y ((hp_RRu hT hS u).mpr z))))⟩⟩⟩
end
section
variable {P n m : Nat} {cp pl ck mk : Int32} {W D EU EV EC RK OR PR ST FN rs rf us pc rc : Nat → Nat}
theorem y_addEdgeB {post : Int32 → SY → Prop} {v1 v2 v3 : Int32} (hb : v1 < 0 ∨ nI n ≤ v1 ∨ v2 < 0 ∨ nI n ≤ v2 ∨ v3 < 0 ∨ 100 < v3) (h : post (-1) (nI P, cp, nI n, nI m, pl, ck, mk, hp_A W, hp_A D, hp_A EU, hp_A EV, hp_A EC, hp_A RK, hp_A OR, hp_A PR, hp_A ST, hp_A FN, hp_A rs, hp_A rf, hp_A us, hp_A pc, hp_A rc)) : wpY_addEdge post (nI P, cp, nI n, nI m, pl, ck, mk, hp_A W, hp_A D, hp_A EU, hp_A EV, hp_A EC, hp_A RK, hp_A OR, hp_A PR, hp_A ST, hp_A FN, hp_A rs, hp_A rf, hp_A us, hp_A pc, hp_A rc) v1 v2 v3 := by
  refine br_c (fun _ => h) (fun a1 => br_c (fun _ => h) (fun a2 => br_c (fun _ => h) (fun a3 => br_c (fun a4 => br_c (fun _ => h) (fun a5 => br_c (fun a6 => ?_) (fun _ => h))) (fun _ => h))))
  rcases hb with w | w | w | w | w | w
  · exact absurd w a1
  · exact absurd w a2
  · exact absurd w a3
  · exact absurd (Int32.lt_of_lt_of_le a4 w) Int32.lt_irrefl
  · exact absurd w a5
  · exact absurd (Int32.lt_of_lt_of_le w a6) Int32.lt_irrefl
theorem y_setDelayB {post : Int32 → SY → Prop} {v1 v2 : Int32} (hb : v1 < 0 ∨ nI n ≤ v1 ∨ v2 < 0 ∨ 100 < v2) (h : post (-1) (nI P, cp, nI n, nI m, pl, ck, mk, hp_A W, hp_A D, hp_A EU, hp_A EV, hp_A EC, hp_A RK, hp_A OR, hp_A PR, hp_A ST, hp_A FN, hp_A rs, hp_A rf, hp_A us, hp_A pc, hp_A rc)) : wpY_setDelay post (nI P, cp, nI n, nI m, pl, ck, mk, hp_A W, hp_A D, hp_A EU, hp_A EV, hp_A EC, hp_A RK, hp_A OR, hp_A PR, hp_A ST, hp_A FN, hp_A rs, hp_A rf, hp_A us, hp_A pc, hp_A rc) v1 v2 := by
  refine br_c (fun _ => h) (fun a1 => br_c (fun a2 => br_c (fun _ => h) (fun a3 => br_c (fun a4 => ?_) (fun _ => h))) (fun _ => h))
  rcases hb with w | w | w | w
  · exact absurd w a1
  · exact absurd (Int32.lt_of_lt_of_le a2 w) Int32.lt_irrefl
  · exact absurd w a3
  · exact absurd (Int32.lt_of_lt_of_le w a4) Int32.lt_irrefl
end
theorem i_vc_addTask {k : Nat} {u : SX} {v : SY} (I : i_Rel k u v) (hk : k + 5 ≤ 2562) (v1 : Int32) (v2 : Int32) (v3 : Int32) (v4 : Int32) : wpX_addTask (fun r u' => wpY_addTask (fun r' v' => r' = r ∧ i_Rel (k + 5) u' v') v v1 v2 v3 v4) u v1 v2 v3 v4 := by
  have J : i_Rel (k + 5) u v := I
  obtain ⟨P, cap, n, m, pl, sp, nw, W, D, EU, EV, EC, RK, OR, PR, ST, FN, BS, PF, RS, RF, rs, rf, us, pc, rc, rfl, rfl, hI, hpl, hPn⟩ := I
  have hI' := hI
  obtain ⟨G, hcap, hnc, hnw, hD, hW⟩ := hI'
  have G' := G
  obtain ⟨hP1, hP, hn, hm, hWb, hE, hT⟩ := G'
  by_cases full : n = cap
  · subst full
    exact br_t rfl (br_t rfl ⟨rfl, J⟩)
  · by_cases ok : (0 < P → ¬ hp_B v1) ∧ (1 < P → ¬ hp_B v2) ∧ (2 < P → ¬ hp_B v3) ∧ (3 < P → ¬ hp_B v4)
    · obtain ⟨g0, g1, g2, g3⟩ := ok
      obtain ⟨d0, a0, b0⟩ := hp_dd P 0 g0
      obtain ⟨d1, a1, b1⟩ := hp_dd P 1 g1
      obtain ⟨d2, a2, b2⟩ := hp_dd P 2 g2
      obtain ⟨d3, a3, b3⟩ := hp_dd P 3 g3
      refine x_addTask hP hcap (by omega) hW g0 g1 g2 g3 ⟨fun q => (a0 q).1, b0⟩ ⟨fun q => (a1 q).1, b1⟩ ⟨fun q => (a2 q).1, b2⟩ ⟨fun q => (a3 q).1, b3⟩ ?_
      refine y_addTask hP1 hP hcap (by omega) g0 g1 g2 g3 ⟨fun q => (a0 q).1, b0⟩ ⟨fun q => (a1 q).1, b1⟩ ⟨fun q => (a2 q).1, b2⟩ ⟨fun q => (a3 q).1, b3⟩ ⟨rfl, ?_⟩
      refine ⟨P, cap, n + 1, m, 0, sp, 0, _, _, EU, EV, EC, RK, OR, PR, ST, FN, BS, PF, RS, RF, rs, rf, us, pc, rc, rfl, rfl, ⟨⟨hP1, hP, by omega, hm, ?_, ?_, hT⟩, hcap, by omega, by omega, ?_, ?_⟩, by omega, fun q => by omega⟩
      · exact hp_addW hP hWb (fun q => (a0 q).2) (fun q => (a1 q).2) (fun q => (a2 q).2) (fun q => (a3 q).2)
      · intro e he
        have := hE e he
        exact ⟨by omega, by omega, by omega⟩
      · intro t ht
        by_cases e : t = n
        · subst e; rw [hp_us]; omega
        · rw [hp_un e]; exact hD t (by omega)
      · intro i hi
        rw [hp_un (by omega), hp_un (by omega), hp_un (by omega), hp_un (by omega)]
        exact hW i (by omega)
    · exact x_addTaskB hP hcap (by omega) ok (y_addTaskB hP1 hP hcap (by omega) ok ⟨rfl, J⟩)
theorem i_vc_addEdge {k : Nat} {u : SX} {v : SY} (I : i_Rel k u v) (hk : k + 5 ≤ 2562) (v1 : Int32) (v2 : Int32) (v3 : Int32) : wpX_addEdge (fun r u' => wpY_addEdge (fun r' v' => r' = r ∧ i_Rel (k + 5) u' v') v v1 v2 v3) u v1 v2 v3 := by
  have J : i_Rel (k + 5) u v := I
  obtain ⟨P, cap, n, m, pl, sp, nw, W, D, EU, EV, EC, RK, OR, PR, ST, FN, BS, PF, RS, RF, rs, rf, us, pc, rc, rfl, rfl, hI, hpl, hPn⟩ := I
  have hI' := hI
  obtain ⟨G, hcap, hnc, hnw, hD, hW⟩ := hI'
  have G' := G
  obtain ⟨hP1, hP, hn, hm, hWb, hE, hT⟩ := G'
  by_cases bad : v1 < 0 ∨ nI n ≤ v1 ∨ v2 < 0 ∨ nI n ≤ v2 ∨ v3 < 0 ∨ 100 < v3
  · exact x_addEdgeB hn bad (y_addEdgeB bad ⟨rfl, J⟩)
  · have z1 : ¬ v1 < 0 := fun q => bad (Or.inl q)
    have z2 : ¬ nI n ≤ v1 := fun q => bad (Or.inr (Or.inl q))
    have z3 : ¬ v2 < 0 := fun q => bad (Or.inr (Or.inr (Or.inl q)))
    have z4 : ¬ nI n ≤ v2 := fun q => bad (Or.inr (Or.inr (Or.inr (Or.inl q))))
    have z5 : ¬ v3 < 0 := fun q => bad (Or.inr (Or.inr (Or.inr (Or.inr (Or.inl q)))))
    have z6 : ¬ 100 < v3 := fun q => bad (Or.inr (Or.inr (Or.inr (Or.inr (Or.inr q)))))
    obtain ⟨a, ha, rfl⟩ := nI_of z1
    obtain ⟨b, hb, rfl⟩ := nI_of z3
    obtain ⟨c, hc, rfl⟩ := nI_of z5
    rw [nI_leI (by omega) ha] at z2
    rw [nI_leI (by omega) hb] at z4
    have z7 : ¬ 100 < c := fun q => z6 (nI_lt (a := 100) q hc)
    have hE2 : ∀ e, e < m → EU e < n ∧ EV e < n := fun e he => ⟨(hE e he).1, (hE e he).2.1⟩
    obtain ⟨S, hS⟩ := hp_RRe (n := n) (m := m) (EU := EU) (EV := EV) (v := b) (by omega) (fun e he => (hE e he).2.1)
    refine x_addEdge hn hm (by omega) (by omega) (by omega) hE2 hS (fun q => ?_) (fun q w => ?_) (fun q w y => ?_) (fun q w y => ?_)
    · exact y_addEdge hn hm (by omega) (by omega) (by omega) hE2 hS (fun _ => ⟨rfl, J⟩) (fun r _ => absurd q (fun ⟨e, h1, h2⟩ => r e h1 h2)) (fun r _ => absurd q (fun ⟨e, h1, h2⟩ => r e h1 h2)) (fun r _ => absurd q (fun ⟨e, h1, h2⟩ => r e h1 h2))
    · exact y_addEdge hn hm (by omega) (by omega) (by omega) hE2 hS (fun ⟨e, h1, h2⟩ => absurd h2 (q e h1)) (fun _ _ => ⟨rfl, J⟩) (fun _ r => absurd w r) (fun _ r => absurd w r)
    · refine y_addEdge hn hm (by omega) (by omega) (by omega) hE2 hS (fun ⟨e, h1, h2⟩ => absurd h2 (q e h1)) (fun _ r => absurd r w) (fun _ _ _ rc' => ⟨rfl, ?_⟩) (fun _ _ r => absurd y r)
      exact ⟨P, cap, n, m, pl, sp, nw, W, D, EU, EV, EC, RK, OR, PR, ST, FN, BS, PF, RS, RF, rs, rf, us, pc, rc', rfl, rfl, hI, hpl, hPn⟩
    · refine y_addEdge hn hm (by omega) (by omega) (by omega) hE2 hS (fun ⟨e, h1, h2⟩ => absurd h2 (q e h1)) (fun _ r => absurd r w) (fun _ _ r => absurd r y) (fun _ _ _ rc' => ⟨rfl, ?_⟩)
      refine ⟨P, cap, n, m + 1, 0, sp, 0, W, D, _, _, _, RK, OR, PR, ST, FN, BS, PF, RS, RF, rs, rf, us, pc, rc', rfl, rfl, ⟨⟨hP1, hP, hn, by omega, hWb, ?_, hp_topA hT hS y⟩, hcap, hnc, by omega, hD, hW⟩, by omega, fun q => by omega⟩
      intro e he
      by_cases w2 : e = m
      · subst w2
        rw [hp_us, hp_us, hp_us]
        exact ⟨by omega, by omega, by omega⟩
      · rw [hp_un w2, hp_un w2, hp_un w2]
        exact hE e (by omega)
theorem i_vc_setDelay {k : Nat} {u : SX} {v : SY} (I : i_Rel k u v) (hk : k + 5 ≤ 2562) (v1 : Int32) (v2 : Int32) : wpX_setDelay (fun r u' => wpY_setDelay (fun r' v' => r' = r ∧ i_Rel (k + 5) u' v') v v1 v2) u v1 v2 := by
  have J : i_Rel (k + 5) u v := I
  obtain ⟨P, cap, n, m, pl, sp, nw, W, D, EU, EV, EC, RK, OR, PR, ST, FN, BS, PF, RS, RF, rs, rf, us, pc, rc, rfl, rfl, hI, hpl, hPn⟩ := I
  have hI' := hI
  obtain ⟨G, hcap, hnc, hnw, hD, hW⟩ := hI'
  have G' := G
  obtain ⟨hP1, hP, hn, hm, hWb, hE, hT⟩ := G'
  have n1 : ¬ (1 : Int32) = 0 := by decide
  by_cases bad : v1 < 0 ∨ nI n ≤ v1 ∨ v2 < 0 ∨ 100 < v2
  · unfold wpX_setDelay
    refine x_isTask hn (fun q => br_t rfl (y_setDelayB bad ⟨rfl, J⟩)) (fun t ht e => br_f n1 ?_)
    refine x_inRange (fun q => br_t rfl (y_setDelayB bad ⟨rfl, J⟩)) (fun q1 q2 => ?_)
    · subst e
      exact (bad.elim (nI_pos (by omega)) (fun w => w.elim (nI_ge ht (by omega)) (fun w => w.elim q1 q2))).elim
  · have z1 : ¬ v1 < 0 := fun q => bad (Or.inl q)
    have z2 : ¬ nI n ≤ v1 := fun q => bad (Or.inr (Or.inl q))
    have z3 : ¬ v2 < 0 := fun q => bad (Or.inr (Or.inr (Or.inl q)))
    have z4 : ¬ 100 < v2 := fun q => bad (Or.inr (Or.inr (Or.inr q)))
    obtain ⟨t, ht, rfl⟩ := nI_of z1
    obtain ⟨d, hd, rfl⟩ := nI_of z3
    rw [nI_leI (by omega) ht] at z2
    have z5 : ¬ 100 < d := fun q => z4 (nI_lt (a := 100) q hd)
    have h16 : vp_in (nI t) 16 := pk_in t 16 (by omega)
    have hD' : ∀ x, x < n → hp_u D t d x ≤ 100 := fun x hx => by
      by_cases e : x = t
      · subst e; rw [hp_us]; omega
      · rw [hp_un e]; exact hD x hx
    have Y : ∀ post : Int32 → SY → Prop, post 0 (nI P, nI cap, nI n, nI m, nI pl, 0, nI sp, hp_A W, hp_A (hp_u D t d), hp_A EU, hp_A EV, hp_A EC, hp_A RK, hp_A OR, hp_A PR, hp_A ST, hp_A FN, hp_A rs, hp_A rf, hp_A us, hp_A pc, hp_A rc) → wpY_setDelay post (nI P, nI cap, nI n, nI m, nI pl, nI nw, nI sp, hp_A W, hp_A D, hp_A EU, hp_A EV, hp_A EC, hp_A RK, hp_A OR, hp_A PR, hp_A ST, hp_A FN, hp_A rs, hp_A rf, hp_A us, hp_A pc, hp_A rc) (nI t) (nI d) := fun post h =>
      br_f (nI_pos ht) (br_t (nI_lt (by omega) (by omega)) (br_f (nI_pos hd) (br_t (nI_le (b := 100) (by omega) (by decide)) ⟨h16, hp_nu ht h⟩)))
    unfold wpX_setDelay
    refine x_isTask hn (fun q => (q.elim z1 (nI_ge (by omega) (by omega))).elim) (fun _ _ _ => br_f n1 ?_)
    refine x_inRange (fun q => (q.elim z3 z4).elim) (fun _ _ => br_f n1 ⟨h16, hp_nu ht (br_c (fun z => Y _ ⟨rfl, ?_⟩) (fun z => ?_))⟩)
    · have hp0 : ¬ pl = 1 := fun e => by rw [e] at z; exact absurd z (by decide)
      exact ⟨P, cap, n, m, pl, sp, 0, W, _, EU, EV, EC, RK, OR, PR, ST, FN, BS, PF, RS, RF, rs, rf, us, pc, rc, rfl, rfl, ⟨G, hcap, hnc, by omega, hD', hW⟩, hpl, fun q => absurd q hp0⟩
    · obtain ⟨q1, q2, q3⟩ := hPn (hp_pl hpl z)
      refine x_computeReplay G q1 q2 hD' (fun PF' RS' RF' hR => Y _ ⟨rfl, ?_⟩)
      exact ⟨P, cap, n, m, pl, sp, 0, W, _, EU, EV, EC, RK, OR, PR, ST, FN, BS, PF', RS', RF', rs, rf, us, pc, rc, rfl, rfl, ⟨G, hcap, hnc, by omega, hD', hW⟩, hpl, fun _ => ⟨q1, q2, hR⟩⟩
theorem i_vc_plan {k : Nat} {u : SX} {v : SY} (I : i_Rel k u v) (hk : k + 5 ≤ 2562) : wpX_plan (fun r u' => wpY_plan (fun r' v' => r' = r ∧ i_Rel (k + 5) u' v') v) u := by
  have J : i_Rel (k + 5) u v := I
  obtain ⟨P, cap, n, m, pl, sp, nw, W, D, EU, EV, EC, RK, OR, PR, ST, FN, BS, PF, RS, RF, rs, rf, us, pc, rc, rfl, rfl, hI, hpl, hPn⟩ := I
  have hI' := hI
  obtain ⟨G, hcap, hnc, hnw, hD, hW⟩ := hI'
  have G' := G
  obtain ⟨hP1, hP, hn, hm, hWb, hE, hT⟩ := G'
  by_cases hn0 : n = 0
  · subst hn0
    exact br_t rfl (br_t rfl ⟨rfl, J⟩)
  · obtain ⟨L, R, H⟩ := hp_rkE G
    refine x_plan G hD H (by omega) (fun r a BS' PF' RS' RF' hr hS ha hB hb hR => ?_)
    refine y_plan G H hr hS ha hB (by omega) (fun us' pc' => ⟨rfl, ?_⟩)
    have hL := hp_PKe G hS (hp_ZK (PR := PR) (ST := ST) (FN := FN) G hS hB n (Nat.le_refl _))
    exact ⟨P, cap, n, m, 1, _, 0, W, D, EU, EV, EC, r, a, _, _, _, BS', PF', RS', RF', rs, rf, us', pc', rc, rfl, rfl, ⟨G, hcap, hnc, by omega, hD, hW⟩, by omega, fun _ => ⟨hL, hb, hR⟩⟩
theorem i_vc_rank {k : Nat} {u : SX} {v : SY} (I : i_Rel k u v) (hk : k + 5 ≤ 2562) (v1 : Int32) : wpX_rank (fun r => wpY_rank (fun r' => r' = r ∧ i_Rel (k + 5) u v) v v1) u v1 := by
  have J : i_Rel (k + 5) u v := I
  obtain ⟨P, cap, n, m, pl, sp, nw, W, D, EU, EV, EC, RK, OR, PR, ST, FN, BS, PF, RS, RF, rs, rf, us, pc, rc, rfl, rfl, hI, hpl, hPn⟩ := I
  have hI' := hI
  obtain ⟨G, hcap, hnc, hnw, hD, hW⟩ := hI'
  have G' := G
  obtain ⟨hP1, hP, hn, hm, hWb, hE, hT⟩ := G'
  unfold wpX_rank
  refine x_planQueryRefusal hn (fun z => br_f (by decide) (br_t z ⟨rfl, J⟩)) (fun z q => br_f (by decide) ?_) (fun z t ht e => br_t rfl ?_)
  · exact br_f z (br_c (fun _ => ⟨rfl, J⟩) (fun a => br_f (fun b => q.elim a (fun c => absurd (Int32.lt_of_lt_of_le b c) Int32.lt_irrefl)) ⟨rfl, J⟩))
  · subst e
    have h16 : vp_in (nI t) 16 := pk_in t 16 (by omega)
    exact ⟨h16, br_f z (br_f (nI_pos (by omega)) (br_t (nI_lt ht (by omega)) ⟨h16, rfl, J⟩))⟩
theorem i_vc_orderAt {k : Nat} {u : SX} {v : SY} (I : i_Rel k u v) (hk : k + 5 ≤ 2562) (v1 : Int32) : wpX_orderAt (fun r => wpY_orderAt (fun r' => r' = r ∧ i_Rel (k + 5) u v) v v1) u v1 := by
  have J : i_Rel (k + 5) u v := I
  obtain ⟨P, cap, n, m, pl, sp, nw, W, D, EU, EV, EC, RK, OR, PR, ST, FN, BS, PF, RS, RF, rs, rf, us, pc, rc, rfl, rfl, hI, hpl, hPn⟩ := I
  have hI' := hI
  obtain ⟨G, hcap, hnc, hnw, hD, hW⟩ := hI'
  have G' := G
  obtain ⟨hP1, hP, hn, hm, hWb, hE, hT⟩ := G'
  unfold wpX_orderAt
  refine x_planQueryRefusal hn (fun z => br_f (by decide) (br_t z ⟨rfl, J⟩)) (fun z q => br_f (by decide) ?_) (fun z t ht e => br_t rfl ?_)
  · exact br_f z (br_c (fun _ => ⟨rfl, J⟩) (fun a => br_f (fun b => q.elim a (fun c => absurd (Int32.lt_of_lt_of_le b c) Int32.lt_irrefl)) ⟨rfl, J⟩))
  · subst e
    have h16 : vp_in (nI t) 16 := pk_in t 16 (by omega)
    exact ⟨h16, br_f z (br_f (nI_pos (by omega)) (br_t (nI_lt ht (by omega)) ⟨h16, rfl, J⟩))⟩
theorem i_vc_plannedProc {k : Nat} {u : SX} {v : SY} (I : i_Rel k u v) (hk : k + 5 ≤ 2562) (v1 : Int32) : wpX_plannedProc (fun r => wpY_plannedProc (fun r' => r' = r ∧ i_Rel (k + 5) u v) v v1) u v1 := by
  have J : i_Rel (k + 5) u v := I
  obtain ⟨P, cap, n, m, pl, sp, nw, W, D, EU, EV, EC, RK, OR, PR, ST, FN, BS, PF, RS, RF, rs, rf, us, pc, rc, rfl, rfl, hI, hpl, hPn⟩ := I
  have hI' := hI
  obtain ⟨G, hcap, hnc, hnw, hD, hW⟩ := hI'
  have G' := G
  obtain ⟨hP1, hP, hn, hm, hWb, hE, hT⟩ := G'
  unfold wpX_plannedProc
  refine x_planQueryRefusal hn (fun z => br_f (by decide) (br_t z ⟨rfl, J⟩)) (fun z q => br_f (by decide) ?_) (fun z t ht e => br_t rfl ?_)
  · exact br_f z (br_c (fun _ => ⟨rfl, J⟩) (fun a => br_f (fun b => q.elim a (fun c => absurd (Int32.lt_of_lt_of_le b c) Int32.lt_irrefl)) ⟨rfl, J⟩))
  · subst e
    have h16 : vp_in (nI t) 16 := pk_in t 16 (by omega)
    exact ⟨h16, br_f z (br_f (nI_pos (by omega)) (br_t (nI_lt ht (by omega)) ⟨h16, rfl, J⟩))⟩
theorem i_vc_plannedStart {k : Nat} {u : SX} {v : SY} (I : i_Rel k u v) (hk : k + 5 ≤ 2562) (v1 : Int32) : wpX_plannedStart (fun r => wpY_plannedStart (fun r' => r' = r ∧ i_Rel (k + 5) u v) v v1) u v1 := by
  have J : i_Rel (k + 5) u v := I
  obtain ⟨P, cap, n, m, pl, sp, nw, W, D, EU, EV, EC, RK, OR, PR, ST, FN, BS, PF, RS, RF, rs, rf, us, pc, rc, rfl, rfl, hI, hpl, hPn⟩ := I
  have hI' := hI
  obtain ⟨G, hcap, hnc, hnw, hD, hW⟩ := hI'
  have G' := G
  obtain ⟨hP1, hP, hn, hm, hWb, hE, hT⟩ := G'
  unfold wpX_plannedStart
  refine x_planQueryRefusal hn (fun z => br_f (by decide) (br_t z ⟨rfl, J⟩)) (fun z q => br_f (by decide) ?_) (fun z t ht e => br_t rfl ?_)
  · exact br_f z (br_c (fun _ => ⟨rfl, J⟩) (fun a => br_f (fun b => q.elim a (fun c => absurd (Int32.lt_of_lt_of_le b c) Int32.lt_irrefl)) ⟨rfl, J⟩))
  · subst e
    have h16 : vp_in (nI t) 16 := pk_in t 16 (by omega)
    exact ⟨h16, br_f z (br_f (nI_pos (by omega)) (br_t (nI_lt ht (by omega)) ⟨h16, rfl, J⟩))⟩
theorem i_vc_plannedFinish {k : Nat} {u : SX} {v : SY} (I : i_Rel k u v) (hk : k + 5 ≤ 2562) (v1 : Int32) : wpX_plannedFinish (fun r => wpY_plannedFinish (fun r' => r' = r ∧ i_Rel (k + 5) u v) v v1) u v1 := by
  have J : i_Rel (k + 5) u v := I
  obtain ⟨P, cap, n, m, pl, sp, nw, W, D, EU, EV, EC, RK, OR, PR, ST, FN, BS, PF, RS, RF, rs, rf, us, pc, rc, rfl, rfl, hI, hpl, hPn⟩ := I
  have hI' := hI
  obtain ⟨G, hcap, hnc, hnw, hD, hW⟩ := hI'
  have G' := G
  obtain ⟨hP1, hP, hn, hm, hWb, hE, hT⟩ := G'
  unfold wpX_plannedFinish
  refine x_planQueryRefusal hn (fun z => br_f (by decide) (br_t z ⟨rfl, J⟩)) (fun z q => br_f (by decide) ?_) (fun z t ht e => br_t rfl ?_)
  · exact br_f z (br_c (fun _ => ⟨rfl, J⟩) (fun a => br_f (fun b => q.elim a (fun c => absurd (Int32.lt_of_lt_of_le b c) Int32.lt_irrefl)) ⟨rfl, J⟩))
  · subst e
    have h16 : vp_in (nI t) 16 := pk_in t 16 (by omega)
    exact ⟨h16, br_f z (br_f (nI_pos (by omega)) (br_t (nI_lt ht (by omega)) ⟨h16, rfl, J⟩))⟩
theorem i_vc_makespan {k : Nat} {u : SX} {v : SY} (I : i_Rel k u v) (hk : k + 5 ≤ 2562) : wpX_makespan (fun r => wpY_makespan (fun r' => r' = r ∧ i_Rel (k + 5) u v) v) u := by
  have J : i_Rel (k + 5) u v := I
  obtain ⟨P, cap, n, m, pl, sp, nw, W, D, EU, EV, EC, RK, OR, PR, ST, FN, BS, PF, RS, RF, rs, rf, us, pc, rc, rfl, rfl, hI, hpl, hPn⟩ := I
  have hI' := hI
  obtain ⟨G, hcap, hnc, hnw, hD, hW⟩ := hI'
  have G' := G
  obtain ⟨hP1, hP, hn, hm, hWb, hE, hT⟩ := G'
  exact br_c (fun z => br_t z ⟨rfl, J⟩) (fun z => br_f z ⟨rfl, J⟩)
theorem i_vc_run {k : Nat} {u : SX} {v : SY} (I : i_Rel k u v) (hk : k + 5 ≤ 2562) (v1 : Int32) : wpX_run (fun r u' => wpY_run (fun r' v' => r' = r ∧ i_Rel (k + 5) u' v') v v1) u v1 := by
  have J : i_Rel (k + 5) u v := I
  obtain ⟨P, cap, n, m, pl, sp, nw, W, D, EU, EV, EC, RK, OR, PR, ST, FN, BS, PF, RS, RF, rs, rf, us, pc, rc, rfl, rfl, hI, hpl, hPn⟩ := I
  have hI' := hI
  obtain ⟨G, hcap, hnc, hnw, hD, hW⟩ := hI'
  have G' := G
  obtain ⟨hP1, hP, hn, hm, hWb, hE, hT⟩ := G'
  refine br_c (fun z => br_t z ⟨rfl, J⟩) (fun z => ?_)
  have hp1 := hp_pl hpl z
  obtain ⟨q1, q2, q3⟩ := hPn hp1
  refine x_inRange (fun q => br_t rfl ?_) (fun a b => br_f (by decide) ?_)
  · exact br_f z (br_c (fun _ => ⟨rfl, J⟩) (fun a => br_f (fun b => q.elim a (fun c => absurd (Int32.lt_of_lt_of_le c b) Int32.lt_irrefl)) ⟨rfl, J⟩))
  · have h0 : ¬ v1 < 0 := fun q => a (Int32.lt_of_lt_of_le q (nI_pos' (by omega)))
    obtain ⟨c, hc, rfl⟩ := nI_of h0
    have a' : ¬ c < nw := fun q => a (nI_lt q (by omega))
    have b' : ¬ 100000 < c := fun q => b (nI_lt (a := 100000) q hc)
    refine x_finishedCount hn hc (fun t ht => (q3 t ht).2) ?_
    refine br_f z (br_f a (br_t (nI_le (b := 100000) (by omega) (by decide)) ?_))
    refine y_replay G q1 hD q3 (fun rs' rf' hq => y_count hn hc (fun t ht => ?_) ⟨?_, ?_⟩)
    · have e := (hq t ht).2
      have f := (q3 t ht).2
      omega
    · rw [hp_ctC n (fun x hx => (hq x hx).2)]
    · exact ⟨P, cap, n, m, pl, sp, c, W, D, EU, EV, EC, RK, OR, PR, ST, FN, BS, PF, RS, RF, rs', rf', us, pc, rc, rfl, rfl, ⟨G, hcap, hnc, by omega, hD, hW⟩, hpl, hPn⟩
theorem i_vc_clock {k : Nat} {u : SX} {v : SY} (I : i_Rel k u v) (hk : k + 5 ≤ 2562) : wpX_clock (fun r => wpY_clock (fun r' => r' = r ∧ i_Rel (k + 5) u v) v) u := by
  have J : i_Rel (k + 5) u v := I
  obtain ⟨P, cap, n, m, pl, sp, nw, W, D, EU, EV, EC, RK, OR, PR, ST, FN, BS, PF, RS, RF, rs, rf, us, pc, rc, rfl, rfl, hI, hpl, hPn⟩ := I
  have hI' := hI
  obtain ⟨G, hcap, hnc, hnw, hD, hW⟩ := hI'
  have G' := G
  obtain ⟨hP1, hP, hn, hm, hWb, hE, hT⟩ := G'
  exact ⟨rfl, J⟩
theorem i_vc_replayStart {k : Nat} {u : SX} {v : SY} (I : i_Rel k u v) (hk : k + 5 ≤ 2562) (v1 : Int32) : wpX_replayStart (fun r => wpY_replayStart (fun r' v' => r' = r ∧ i_Rel (k + 5) u v') v v1) u v1 := by
  have J : i_Rel (k + 5) u v := I
  obtain ⟨P, cap, n, m, pl, sp, nw, W, D, EU, EV, EC, RK, OR, PR, ST, FN, BS, PF, RS, RF, rs, rf, us, pc, rc, rfl, rfl, hI, hpl, hPn⟩ := I
  have hI' := hI
  obtain ⟨G, hcap, hnc, hnw, hD, hW⟩ := hI'
  have G' := G
  obtain ⟨hP1, hP, hn, hm, hWb, hE, hT⟩ := G'
  unfold wpX_replayStart
  refine x_planQueryRefusal hn (fun z => br_f (by decide) (br_t z ⟨rfl, J⟩)) (fun z q => br_f (by decide) ?_) (fun z t ht e => br_t rfl ?_)
  · exact br_f z (br_c (fun _ => ⟨rfl, J⟩) (fun a => br_f (fun b => q.elim a (fun c => absurd (Int32.lt_of_lt_of_le b c) Int32.lt_irrefl)) ⟨rfl, J⟩))
  · subst e
    have h16 : vp_in (nI t) 16 := pk_in t 16 (by omega)
    have hp1 := hp_pl hpl z
    obtain ⟨q1, q2, q3⟩ := hPn hp1
    have b0 := (q3 t ht).2
    have b1 := (q3 t ht).1.2
    have Y : ∀ post : Int32 → SY → Prop, (∀ rs' rf', (∀ t, t < n → rs' t = RS t ∧ rf' t = RF t) → (nw < RS t → post (-7) (nI P, nI cap, nI n, nI m, nI pl, nI nw, nI sp, hp_A W, hp_A D, hp_A EU, hp_A EV, hp_A EC, hp_A RK, hp_A OR, hp_A PR, hp_A ST, hp_A FN, hp_A rs', hp_A rf', hp_A us, hp_A pc, hp_A rc)) ∧ (¬ nw < RS t → post (nI (RS t)) (nI P, nI cap, nI n, nI m, nI pl, nI nw, nI sp, hp_A W, hp_A D, hp_A EU, hp_A EV, hp_A EC, hp_A RK, hp_A OR, hp_A PR, hp_A ST, hp_A FN, hp_A rs', hp_A rf', hp_A us, hp_A pc, hp_A rc))) → wpY_replayStart post (nI P, nI cap, nI n, nI m, nI pl, nI nw, nI sp, hp_A W, hp_A D, hp_A EU, hp_A EV, hp_A EC, hp_A RK, hp_A OR, hp_A PR, hp_A ST, hp_A FN, hp_A rs, hp_A rf, hp_A us, hp_A pc, hp_A rc) (nI t) := by
      intro post h
      refine br_f z (br_f (nI_pos (by omega)) (br_t (nI_lt ht (by omega)) ?_))
      refine y_replay G q1 hD q3 (fun rs' rf' hq => ⟨h16, ?_⟩)
      obtain ⟨g1, g2⟩ := h rs' rf' hq
      have w1 := (hq t ht).1
      have w2 := (hq t ht).2
      rw [hp_rd (f := rs') (j := t) (by omega), w1]
      exact pk_lt nw (RS t) (fun y => g1 y) (fun y => ⟨h16, g2 (by omega)⟩)
    refine ⟨h16, ?_⟩
    rw [hp_rd (f := RS) (j := t) (by omega)]
    refine pk_lt nw (RS t) (fun y => Y _ (fun rs' rf' _ => ⟨fun _ => ⟨rfl, ?_⟩, fun w => absurd y w⟩)) (fun y => Y _ (fun rs' rf' _ => ⟨fun w => by omega, fun _ => ⟨rfl, ?_⟩⟩))
    · exact ⟨P, cap, n, m, pl, sp, nw, W, D, EU, EV, EC, RK, OR, PR, ST, FN, BS, PF, RS, RF, rs', rf', us, pc, rc, rfl, rfl, hI, hpl, hPn⟩
    · exact ⟨P, cap, n, m, pl, sp, nw, W, D, EU, EV, EC, RK, OR, PR, ST, FN, BS, PF, RS, RF, rs', rf', us, pc, rc, rfl, rfl, hI, hpl, hPn⟩
theorem i_vc_replayFinish {k : Nat} {u : SX} {v : SY} (I : i_Rel k u v) (hk : k + 5 ≤ 2562) (v1 : Int32) : wpX_replayFinish (fun r => wpY_replayFinish (fun r' v' => r' = r ∧ i_Rel (k + 5) u v') v v1) u v1 := by
  have J : i_Rel (k + 5) u v := I
  obtain ⟨P, cap, n, m, pl, sp, nw, W, D, EU, EV, EC, RK, OR, PR, ST, FN, BS, PF, RS, RF, rs, rf, us, pc, rc, rfl, rfl, hI, hpl, hPn⟩ := I
  have hI' := hI
  obtain ⟨G, hcap, hnc, hnw, hD, hW⟩ := hI'
  have G' := G
  obtain ⟨hP1, hP, hn, hm, hWb, hE, hT⟩ := G'
  unfold wpX_replayFinish
  refine x_planQueryRefusal hn (fun z => br_f (by decide) (br_t z ⟨rfl, J⟩)) (fun z q => br_f (by decide) ?_) (fun z t ht e => br_t rfl ?_)
  · exact br_f z (br_c (fun _ => ⟨rfl, J⟩) (fun a => br_f (fun b => q.elim a (fun c => absurd (Int32.lt_of_lt_of_le b c) Int32.lt_irrefl)) ⟨rfl, J⟩))
  · subst e
    have h16 : vp_in (nI t) 16 := pk_in t 16 (by omega)
    have hp1 := hp_pl hpl z
    obtain ⟨q1, q2, q3⟩ := hPn hp1
    have b0 := (q3 t ht).2
    have b1 := (q3 t ht).1.2
    have Y : ∀ post : Int32 → SY → Prop, (∀ rs' rf', (∀ t, t < n → rs' t = RS t ∧ rf' t = RF t) → (nw < RF t → post (-7) (nI P, nI cap, nI n, nI m, nI pl, nI nw, nI sp, hp_A W, hp_A D, hp_A EU, hp_A EV, hp_A EC, hp_A RK, hp_A OR, hp_A PR, hp_A ST, hp_A FN, hp_A rs', hp_A rf', hp_A us, hp_A pc, hp_A rc)) ∧ (¬ nw < RF t → post (nI (RF t)) (nI P, nI cap, nI n, nI m, nI pl, nI nw, nI sp, hp_A W, hp_A D, hp_A EU, hp_A EV, hp_A EC, hp_A RK, hp_A OR, hp_A PR, hp_A ST, hp_A FN, hp_A rs', hp_A rf', hp_A us, hp_A pc, hp_A rc))) → wpY_replayFinish post (nI P, nI cap, nI n, nI m, nI pl, nI nw, nI sp, hp_A W, hp_A D, hp_A EU, hp_A EV, hp_A EC, hp_A RK, hp_A OR, hp_A PR, hp_A ST, hp_A FN, hp_A rs, hp_A rf, hp_A us, hp_A pc, hp_A rc) (nI t) := by
      intro post h
      refine br_f z (br_f (nI_pos (by omega)) (br_t (nI_lt ht (by omega)) ?_))
      refine y_replay G q1 hD q3 (fun rs' rf' hq => ⟨h16, ?_⟩)
      obtain ⟨g1, g2⟩ := h rs' rf' hq
      have w1 := (hq t ht).1
      have w2 := (hq t ht).2
      rw [hp_rd (f := rf') (j := t) (by omega), w2]
      exact pk_lt nw (RF t) (fun y => g1 y) (fun y => ⟨h16, g2 (by omega)⟩)
    refine ⟨h16, ?_⟩
    rw [hp_rd (f := RF) (j := t) (by omega)]
    refine pk_lt nw (RF t) (fun y => Y _ (fun rs' rf' _ => ⟨fun _ => ⟨rfl, ?_⟩, fun w => absurd y w⟩)) (fun y => Y _ (fun rs' rf' _ => ⟨fun w => by omega, fun _ => ⟨rfl, ?_⟩⟩))
    · exact ⟨P, cap, n, m, pl, sp, nw, W, D, EU, EV, EC, RK, OR, PR, ST, FN, BS, PF, RS, RF, rs', rf', us, pc, rc, rfl, rfl, hI, hpl, hPn⟩
    · exact ⟨P, cap, n, m, pl, sp, nw, W, D, EU, EV, EC, RK, OR, PR, ST, FN, BS, PF, RS, RF, rs', rf', us, pc, rc, rfl, rfl, hI, hpl, hPn⟩
theorem i_vc_taskCount {k : Nat} {u : SX} {v : SY} (I : i_Rel k u v) (hk : k + 5 ≤ 2562) : wpX_taskCount (fun r => wpY_taskCount (fun r' => r' = r ∧ i_Rel (k + 5) u v) v) u := by
  have J : i_Rel (k + 5) u v := I
  obtain ⟨P, cap, n, m, pl, sp, nw, W, D, EU, EV, EC, RK, OR, PR, ST, FN, BS, PF, RS, RF, rs, rf, us, pc, rc, rfl, rfl, hI, hpl, hPn⟩ := I
  have hI' := hI
  obtain ⟨G, hcap, hnc, hnw, hD, hW⟩ := hI'
  have G' := G
  obtain ⟨hP1, hP, hn, hm, hWb, hE, hT⟩ := G'
  exact ⟨rfl, J⟩
theorem i_vc_edgeCount {k : Nat} {u : SX} {v : SY} (I : i_Rel k u v) (hk : k + 5 ≤ 2562) : wpX_edgeCount (fun r => wpY_edgeCount (fun r' => r' = r ∧ i_Rel (k + 5) u v) v) u := by
  have J : i_Rel (k + 5) u v := I
  obtain ⟨P, cap, n, m, pl, sp, nw, W, D, EU, EV, EC, RK, OR, PR, ST, FN, BS, PF, RS, RF, rs, rf, us, pc, rc, rfl, rfl, hI, hpl, hPn⟩ := I
  have hI' := hI
  obtain ⟨G, hcap, hnc, hnw, hD, hW⟩ := hI'
  have G' := G
  obtain ⟨hP1, hP, hn, hm, hWb, hE, hT⟩ := G'
  exact ⟨rfl, J⟩
end
