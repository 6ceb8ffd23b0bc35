/-! ===== reach: passes over the edges ===== -/
def hp_Cl (m : Nat) (EU EV : Nat → Nat) (S : Nat → Prop) : Prop := ∀ e, e < m → S (EU e) → S (EV e)
/-- the set at the head of pass k -/
def hp_RO (n m : Nat) (EU EV : Nat → Nat) (v k : Nat) (S : Nat → Prop) : Prop :=
  S v ∧ (∀ j, S j → j < n) ∧ (∀ C : Nat → Prop, hp_Cl m EU EV C → C v → ∀ j, S j → C j) ∧ (hp_Cl m EU EV S ∨ k + 1 ≤ cn S n)
/-- the set within a pass that began with S0 -/
def hp_RI (n m : Nat) (EU EV : Nat → Nat) (v : Nat) (S0 : Nat → Prop) (i : Nat) (S : Nat → Prop) : Prop :=
  (∀ j, S0 j → S j) ∧ (∀ j, S j → j < n) ∧ (∀ C : Nat → Prop, hp_Cl m EU EV C → C v → ∀ j, S j → C j) ∧ (∀ e, e < i → S0 (EU e) → S (EV e))
theorem hp_RO0 {n m : Nat} {EU EV : Nat → Nat} {v : Nat} (hv : v < n) : hp_RO n m EU EV v 0 (fun j => j = v) := by
  refine ⟨rfl, fun j (h : j = v) => by omega, fun C _ hC j (h : j = v) => by rw [h]; exact hC, Or.inr ?_⟩
  have := cn_lt (P := fun _ => False) (Q := fun j => j = v) (a := v) id rfl (N := n) (fun _ _ h => h.elim) hv
  omega
theorem hp_RI0 {n m : Nat} {EU EV : Nat → Nat} {v k : Nat} {S : Nat → Prop} (h : hp_RO n m EU EV v k S) : hp_RI n m EU EV v S 0 S :=
  ⟨fun _ h => h, h.2.1, h.2.2.1, fun e he => absurd he (Nat.not_lt_zero e)⟩
theorem hp_RIs {n m : Nat} {EU EV : Nat → Nat} {v : Nat} {S0 S : Nat → Prop} {i : Nat} (h : hp_RI n m EU EV v S0 i S) (hi : i < m) (hn : EV i < n) (hs : S (EU i)) : hp_RI n m EU EV v S0 (i + 1) (fun j => S j ∨ j = EV i) := by
  obtain ⟨h1, h2, h3, h4⟩ := h
  refine ⟨fun j hj => Or.inl (h1 j hj), fun j hj => ?_, fun C hC hv j hj => ?_, fun e he hS => ?_⟩
  · rcases hj with hj | hj
    · exact h2 j hj
    · rw [hj]; exact hn
  · rcases hj with hj | hj
    · exact h3 C hC hv j hj
    · rw [hj]; exact hC i hi (h3 C hC hv _ hs)
  · rcases Nat.lt_or_ge e i with z | z
    · exact Or.inl (h4 e z hS)
    · have e1 : e = i := by omega
      exact Or.inr (by rw [e1])
theorem hp_RIn {n m : Nat} {EU EV : Nat → Nat} {v : Nat} {S0 S : Nat → Prop} {i : Nat} (h : hp_RI n m EU EV v S0 i S) (hs : ¬ S (EU i)) : hp_RI n m EU EV v S0 (i + 1) S := by
  obtain ⟨h1, h2, h3, h4⟩ := h
  refine ⟨h1, h2, h3, fun e he hS => ?_⟩
  rcases Nat.lt_or_ge e i with z | z
  · exact h4 e z hS
  · have e1 : e = i := by omega
    rw [e1] at hS
    exact absurd (h1 _ hS) hs
theorem hp_ROs {n m : Nat} {EU EV : Nat → Nat} {v k : Nat} {S0 S : Nat → Prop} (h : hp_RO n m EU EV v k S0) (g : hp_RI n m EU EV v S0 m S) : hp_RO n m EU EV v (k + 1) S := by
  obtain ⟨a1, a2, a3, a4⟩ := h
  obtain ⟨b1, b2, b3, b4⟩ := g
  refine ⟨b1 v a1, b2, b3, ?_⟩
  by_cases hz : ∀ j, S j → S0 j
  · exact Or.inl fun e he hS => b4 e he (hz _ hS)
  · rcases a4 with a4 | a4
    · exact absurd (fun j hj => b3 S0 a4 a1 j hj) hz
    · refine Or.inr ?_
      have e' : ∃ j, S j ∧ ¬ S0 j := Classical.byContradiction fun q => hz fun j hj => Classical.byContradiction fun z => q ⟨j, hj, z⟩
      obtain ⟨j, hj, hn⟩ := e'
      have := cn_lt (P := S0) (Q := S) (a := j) hn hj (N := n) (fun k _ hk => b1 k hk) (b2 j hj)
      omega
/-- what both sides end with -/
def hp_RR (n m : Nat) (EU EV : Nat → Nat) (v : Nat) (S : Nat → Prop) : Prop :=
  S v ∧ (∀ j, S j → j < n) ∧ (∀ C : Nat → Prop, hp_Cl m EU EV C → C v → ∀ j, S j → C j) ∧ hp_Cl m EU EV S
theorem hp_ROe {n m : Nat} {EU EV : Nat → Nat} {v : Nat} {S : Nat → Prop} (h : hp_RO n m EU EV v n S) : hp_RR n m EU EV v S := by
  obtain ⟨a1, a2, a3, a4⟩ := h
  refine ⟨a1, a2, a3, ?_⟩
  rcases a4 with a4 | a4
  · exact a4
  · have := cn_le S n
    omega
theorem hp_RRu {n m : Nat} {EU EV : Nat → Nat} {v : Nat} {S T : Nat → Prop} (h : hp_RR n m EU EV v S) (g : hp_RR n m EU EV v T) (j : Nat) : S j ↔ T j :=
  ⟨fun z => h.2.2.1 T g.2.2.2 g.1 j z, fun z => g.2.2.1 S h.2.2.2 h.1 j z⟩
/-! ===== no cycle: a numbering that grows along the edges ===== -/
def hp_Top (m : Nat) (EU EV : Nat → Nat) : Prop := ∃ r : Nat → Nat, ∀ e, e < m → r (EU e) < r (EV e)
theorem hp_topA {n m : Nat} {EU EV : Nat → Nat} {u v : Nat} {S : Nat → Prop} (h : hp_Top m EU EV) (g : hp_RR n m EU EV v S) (hu : ¬ S u) : hp_Top (m + 1) (hp_u EU m u) (hp_u EV m v) := by
  obtain ⟨r, hr⟩ := h
  refine ⟨fun x => r x + b01 (S x) * (r u + 1), fun e he => ?_⟩
  show r _ + b01 _ * (r u + 1) < r _ + b01 _ * (r u + 1)
  rcases Nat.lt_or_ge e m with z | z
  · rw [hp_un (by omega), hp_un (by omega)]
    have q := hr e z
    by_cases s : S (EU e)
    · rw [b01_t s, b01_t (g.2.2.2 e z s)]
      omega
    · rw [b01_f s]
      have : 0 * (r u + 1) = 0 := Nat.zero_mul _
      have := Nat.zero_le (b01 (S (EV e)) * (r u + 1))
      omega
  · have e1 : e = m := by omega
    subst e1
    rw [hp_us, hp_us, b01_f hu, b01_t g.1]
    omega
theorem hp_topL {n m : Nat} {EU EV : Nat → Nat} (h : hp_Top m EU EV) (hn : ∀ e, e < m → EU e < n) : ∃ L : Nat → Nat, (∀ t, t < n → L t < n) ∧ (∀ e, e < m → L (EU e) < L (EV e)) := by
  obtain ⟨r, hr⟩ := h
  obtain ⟨L, h1, h2⟩ := hp_lev r n
  exact ⟨L, h1, fun e he => h2 _ _ (hn e he) (hr e he)⟩
