/-! ===== placing ===== -/
/-- when the data of edge e is at processor p -/
def hp_ar (EU EC PR FN : Nat → Nat) (p e : Nat) : Nat := FN (EU e) + (if PR (EU e) = p then 0 else EC e)
/-- no placed task (the first i of the list a) on p is in the way of s, s + d -/
def hp_Fr (a PR ST FN : Nat → Nat) (i p d s : Nat) : Prop := ∀ j, j < i → PR (a j) = p → ¬ (s < FN (a j) ∧ ST (a j) < s + d)
def hp_Le (a PR ST FN : Nat → Nat) (i p d ready s : Nat) : Prop :=
  ready ≤ s ∧ hp_Fr a PR ST FN i p d s ∧ ∀ s', ready ≤ s' → hp_Fr a PR ST FN i p d s' → s ≤ s'
theorem hp_LeE {a PR ST FN : Nat → Nat} {i p d ready B : Nat} (hB : ∀ j, j < i → FN (a j) ≤ B) : ∃ s, hp_Le a PR ST FN i p d ready s ∧ s ≤ ready + B := by
  have h0 : ready ≤ ready + B ∧ hp_Fr a PR ST FN i p d (ready + B) := ⟨by omega, fun j hj _ h => by have := hB j hj; omega⟩
  obtain ⟨s, ⟨h1, h2⟩, h3⟩ := pk_least (fun s => ready ≤ s ∧ hp_Fr a PR ST FN i p d s) ⟨_, h0⟩
  have hmin : ∀ s', ready ≤ s' → hp_Fr a PR ST FN i p d s' → s ≤ s' := fun s' q r => by
    rcases Nat.lt_or_ge s' s with z | z
    · exact (h3 s' z ⟨q, r⟩).elim
    · exact z
  exact ⟨s, ⟨h1, h2, hmin⟩, hmin _ h0.1 h0.2⟩
theorem hp_LeB {a PR ST FN : Nat → Nat} {i p d ready B s : Nat} (hB : ∀ j, j < i → FN (a j) ≤ B) (hr : ready ≤ B) (h : hp_Le a PR ST FN i p d ready s) : s ≤ B :=
  h.2.2 B hr (fun j hj _ q => by have := hB j hj; omega)
theorem hp_LeU {a PR ST FN : Nat → Nat} {i p d ready s s' : Nat} (h : hp_Le a PR ST FN i p d ready s) (g : hp_Le a PR ST FN i p d ready s') : s = s' :=
  Nat.le_antisymm (h.2.2 s' g.1 g.2.1) (g.2.2 s h.1 h.2.1)
/-- a start that is not the ready time is some placed task's finish -/
theorem hp_LeF {a PR ST FN : Nat → Nat} {i p d ready s : Nat} (h : hp_Le a PR ST FN i p d ready s) (hr : ready < s) : ∃ j, j < i ∧ PR (a j) = p ∧ FN (a j) = s := by
  obtain ⟨h1, h2, h3⟩ := h
  have hn : ¬ hp_Fr a PR ST FN i p d (s - 1) := fun q => by have := h3 (s - 1) (by omega) q; omega
  refine Classical.byContradiction fun hc => hn fun j hj hp q => hc ⟨j, hj, hp, ?_⟩
  have := h2 j hj hp
  omega
/-- the class's search; head of pass k -/
def hp_EK (a PR ST FN : Nat → Nat) (i p d ready k s : Nat) : Prop :=
  ready ≤ s ∧ (∀ s', ready ≤ s' → hp_Fr a PR ST FN i p d s' → s ≤ s') ∧ (hp_Fr a PR ST FN i p d s ∨ k ≤ cn (fun j => FN (a j) ≤ s) i)
def hp_EI (a PR ST FN : Nat → Nat) (i p d ready s0 q s : Nat) : Prop :=
  ready ≤ s ∧ (∀ s', ready ≤ s' → hp_Fr a PR ST FN i p d s' → s ≤ s') ∧ s0 ≤ s ∧ ((s = s0 ∧ hp_Fr a PR ST FN q p d s0) ∨ cn (fun j => FN (a j) ≤ s0) i + 1 ≤ cn (fun j => FN (a j) ≤ s) i)
theorem hp_EK0 {a PR ST FN : Nat → Nat} {i p d ready : Nat} : hp_EK a PR ST FN i p d ready 0 ready := ⟨Nat.le_refl _, fun _ h _ => h, Or.inr (Nat.zero_le _)⟩
theorem hp_EI0 {a PR ST FN : Nat → Nat} {i p d ready k s : Nat} (h : hp_EK a PR ST FN i p d ready k s) : hp_EI a PR ST FN i p d ready s 0 s :=
  ⟨h.1, h.2.1, Nat.le_refl _, Or.inl ⟨rfl, fun j hj => by omega⟩⟩
theorem hp_EIs {a PR ST FN : Nat → Nat} {i p d ready s0 q s : Nat} (hq : q < i) (h : hp_EI a PR ST FN i p d ready s0 q s) (hp : PR (a q) = p) (h1 : ST (a q) < s + d) (h2 : s < FN (a q)) : hp_EI a PR ST FN i p d ready s0 (q + 1) (FN (a q)) := by
  obtain ⟨g1, g2, g3, g4⟩ := h
  refine ⟨by omega, fun s' hs hf => ?_, by omega, Or.inr ?_⟩
  · have x := g2 s' hs hf
    have y := hf q hq hp
    omega
  · have x := cn_lt (P := fun j => FN (a j) ≤ s) (Q := fun j => FN (a j) ≤ FN (a q)) (a := q) (show ¬ FN (a q) ≤ s by omega) (Nat.le_refl _) (N := i) (fun k _ (hk : FN (a k) ≤ s) => (show FN (a k) ≤ FN (a q) by omega)) hq
    have y := cn_mono (P := fun j => FN (a j) ≤ s0) (Q := fun j => FN (a j) ≤ s) (N := i) (fun k _ (hk : FN (a k) ≤ s0) => (show FN (a k) ≤ s by omega))
    omega
theorem hp_EIn {a PR ST FN : Nat → Nat} {i p d ready s0 q s : Nat} (h : hp_EI a PR ST FN i p d ready s0 q s) (hn : ¬ (PR (a q) = p ∧ ST (a q) < s + d ∧ s < FN (a q))) : hp_EI a PR ST FN i p d ready s0 (q + 1) s := by
  obtain ⟨g1, g2, g3, g4⟩ := h
  refine ⟨g1, g2, g3, ?_⟩
  rcases g4 with ⟨e, g4⟩ | g4
  · refine Or.inl ⟨e, fun j hj hp z => ?_⟩
    by_cases w : j = q
    · subst w
      exact hn ⟨hp, by omega, by omega⟩
    · exact g4 j (by omega) hp z
  · exact Or.inr g4
theorem hp_EIe {a PR ST FN : Nat → Nat} {i p d ready k s0 s : Nat} (h : hp_EK a PR ST FN i p d ready k s0) (g : hp_EI a PR ST FN i p d ready s0 i s) : hp_EK a PR ST FN i p d ready (k + 1) s := by
  obtain ⟨h1, h2, h3⟩ := h
  obtain ⟨g1, g2, g3, g4⟩ := g
  refine ⟨g1, g2, ?_⟩
  rcases g4 with ⟨e, g4⟩ | g4
  · rw [e]; exact Or.inl g4
  · rcases h3 with h3 | h3
    · have : s = s0 := Nat.le_antisymm (g2 s0 h1 h3) g3
      rw [this]; exact Or.inl h3
    · exact Or.inr (by omega)
theorem hp_EKe {a PR ST FN : Nat → Nat} {i p d ready s : Nat} (h : hp_EK a PR ST FN i p d ready i s) : hp_Le a PR ST FN i p d ready s := by
  obtain ⟨h1, h2, h3⟩ := h
  refine ⟨h1, ?_, h2⟩
  rcases h3 with h3 | h3
  · exact h3
  · intro j hj _ q
    have : FN (a j) ≤ s := hp_cnT h3 j hj
    omega
/-- the reference's search: after all tasks below t -/
def hp_Es (U : Nat → Prop) (PR FN : Nat → Nat) (p ready s t : Nat) (o : Option Nat) : Prop :=
  (∀ b, o = some b → s ≤ b) ∧ (o = some s ∨ (ready < s ∧ ∀ x, x < t → U x → PR x = p → FN x ≠ s))
theorem hp_EsA {U : Nat → Prop} {a PR ST FN : Nat → Nat} {i p d ready s : Nat} (h : hp_Le a PR ST FN i p d ready s) (hf : hp_Fr a PR ST FN i p d ready) : hp_Es U PR FN p ready s 0 (some ready) := by
  have e : s = ready := Nat.le_antisymm (h.2.2 ready (Nat.le_refl _) hf) h.1
  subst e
  exact ⟨fun b hb => by cases hb; exact Nat.le_refl _, Or.inl rfl⟩
theorem hp_EsB {U : Nat → Prop} {a PR ST FN : Nat → Nat} {i p d ready s : Nat} (h : hp_Le a PR ST FN i p d ready s) (hf : ¬ hp_Fr a PR ST FN i p d ready) : hp_Es U PR FN p ready s 0 none := by
  refine ⟨fun b hb => (nomatch hb), Or.inr ⟨?_, fun x hx => by omega⟩⟩
  rcases Nat.lt_or_ge ready s with z | z
  · exact z
  · have e : s = ready := Nat.le_antisymm z h.1
    rw [e] at h
    exact absurd h.2.1 hf
theorem hp_EsK {U : Nat → Prop} {PR FN : Nat → Nat} {p ready s t : Nat} {o : Option Nat} (h : hp_Es U PR FN p ready s t o) (hk : ready < s → o ≠ some s → U t → PR t = p → FN t = s → False) : hp_Es U PR FN p ready s (t + 1) o := by
  obtain ⟨h1, h2⟩ := h
  refine ⟨h1, ?_⟩
  by_cases z : o = some s
  · exact Or.inl z
  · rcases h2 with h2 | ⟨h2, h3⟩
    · exact Or.inl h2
    · refine Or.inr ⟨h2, fun x hx hu hp hf => ?_⟩
      by_cases e : x = t
      · subst e
        exact hk h2 z hu hp hf
      · exact h3 x (by omega) hu hp hf
theorem hp_EsT {U : Nat → Prop} {a PR ST FN : Nat → Nat} {i p d ready s t : Nat} {o : Option Nat} (hL : hp_Le a PR ST FN i p d ready s) (h : hp_Es U PR FN p ready s t o) (hr : ready < FN t) (hb : ∀ b, o = some b → FN t < b) (hf : hp_Fr a PR ST FN i p d (FN t)) : hp_Es U PR FN p ready s (t + 1) (some (FN t)) := by
  obtain ⟨h1, h2⟩ := h
  have hs := hL.2.2 (FN t) (by omega) hf
  refine ⟨fun b e => by cases e; exact hs, ?_⟩
  by_cases e : FN t = s
  · rw [e]; exact Or.inl rfl
  · rcases h2 with h2 | ⟨h2, h3⟩
    · have := hb s h2
      omega
    · refine Or.inr ⟨h2, fun x hx hu hp => ?_⟩
      by_cases z : x = t
      · subst z; exact e
      · exact h3 x (by omega) hu hp
theorem hp_EsE {U : Nat → Prop} {a PR ST FN : Nat → Nat} {n i p d ready s : Nat} {o : Option Nat} (hL : hp_Le a PR ST FN i p d ready s) (ha : ∀ j, j < i → a j < n) (hU : ∀ j, j < i → U (a j)) (h : hp_Es U PR FN p ready s n o) : o = some s := by
  rcases h.2 with h2 | ⟨h2, h3⟩
  · exact h2
  · obtain ⟨j, hj, hp, hf⟩ := hp_LeF hL h2
    exact absurd hf (h3 (a j) (ha j hj) (hU j hj) hp)
theorem hp_FrU {U : Nat → Prop} {a PR ST FN : Nat → Nat} {n i p d s : Nat} (ha : ∀ j, j < i → a j < n) (hU : ∀ x, x < n → (U x ↔ ∃ j, j < i ∧ a j = x)) : hp_Fr a PR ST FN i p d s ↔ ∀ x, x < n → U x → PR x = p → ¬ (s < FN x ∧ ST x < s + d) := by
  constructor
  · intro h x hx hu hp
    obtain ⟨j, hj, e⟩ := (hU x hx).mp hu
    subst e
    exact h j hj hp
  · intro h j hj hp
    exact h (a j) (ha j hj) ((hU _ (ha j hj)).mpr ⟨j, hj, rfl⟩) hp
/-! ===== the best processor ===== -/
def hp_bp (g : Nat → Nat) : Nat → Nat
  | 0 => 0
  | p + 1 => if g p < g (hp_bp g p) then p else hp_bp g p
theorem hp_bp1 (g : Nat → Nat) : hp_bp g 1 = 0 := by
  show (if g 0 < g 0 then 0 else 0) = 0
  split <;> rfl
theorem hp_bpL (g : Nat → Nat) : ∀ p, 0 < p → hp_bp g p < p
  | 0, h => by omega
  | p + 1, _ => by
    rw [hp_bp]
    split
    · omega
    · rcases Nat.eq_zero_or_pos p with z | z
      · subst z; exact Nat.zero_lt_one
      · have := hp_bpL g p z; omega
/-! ===== the plan, position by position ===== -/
def hp_PK (P m : Nat) (W EU EV a : Nat → Nat) (i : Nat) (PR ST FN : Nat → Nat) (mk : Nat) : Prop :=
  (∀ j, j < i → PR (a j) < P ∧ FN (a j) = ST (a j) + W (a j * 4 + PR (a j)) ∧ FN (a j) ≤ 200 * (j + 1)) ∧
  (∀ e j, e < m → j < i → EV e = a j → FN (EU e) ≤ ST (EV e)) ∧
  (∀ j k, j < k → k < i → PR (a j) = PR (a k) → FN (a j) ≤ ST (a k) ∨ FN (a k) ≤ ST (a j)) ∧ mk ≤ 200 * i
theorem hp_PK0 {P m : Nat} {W EU EV a PR ST FN : Nat → Nat} : hp_PK P m W EU EV a 0 PR ST FN 0 :=
  ⟨fun j h => by omega, fun e j _ h => by omega, fun j k _ h => by omega, Nat.le_refl _⟩
/-- what a task waits for stands before it in the list -/
def hp_Bf (n m : Nat) (EU EV a : Nat → Nat) : Prop := ∀ e j, e < m → j < n → EV e = a j → ∃ k, k < j ∧ a k = EU e
theorem hp_BfR {n m : Nat} {EU EV a G : Nat → Nat} (S : hp_So n G a) (hE : ∀ e, e < m → EU e < n) (h : ∀ e, e < m → G (EU e) < G (EV e)) : hp_Bf n m EU EV a := by
  intro e j he hj q
  obtain ⟨k, hk, w⟩ := S.2.1 (EU e) (hE e he)
  refine ⟨k, ?_, w⟩
  have x := h e he
  rcases Nat.lt_trichotomy k j with z | z | z
  · exact z
  · subst z
    rw [q, w] at x
    exact absurd x (Nat.lt_irrefl _)
  · have y := S.2.2 j k z hk
    rw [w, ← q] at y
    unfold hp_bf at y
    omega
theorem hp_PKf {P m n : Nat} {W EU EV a PR ST FN : Nat → Nat} {i mk : Nat} (hB : hp_Bf n m EU EV a) (hi : i < n) (h : hp_PK P m W EU EV a i PR ST FN mk) {e : Nat} (he : e < m) (q : EV e = a i) : FN (EU e) ≤ 200 * i := by
  obtain ⟨k, hk, w⟩ := hB e i he hi q
  have := (h.1 k hk).2.2
  rw [w] at this
  omega
theorem hp_PKr {P m n : Nat} {W EU EV EC a PR ST FN : Nat → Nat} {i mk p : Nat} (hE : ∀ e, e < m → EC e ≤ 100) (hB : hp_Bf n m EU EV a) (hi : i < n) (h : hp_PK P m W EU EV a i PR ST FN mk) : hp_mx EV (a i) (hp_ar EU EC PR FN p) 0 m ≤ 200 * i + 100 := by
  refine hp_mxL (by omega) m (fun e he q => ?_)
  have x := hp_PKf hB hi h he q
  have y := hE e he
  unfold hp_ar
  split <;> omega
theorem hp_PKs {P m n : Nat} {W EU EV EC a G PR ST FN : Nat → Nat} {i mk bp bs : Nat} (S : hp_So n G a) (hE : ∀ e, e < m → EC e ≤ 100) (hB : hp_Bf n m EU EV a) (hi : i < n) (h : hp_PK P m W EU EV a i PR ST FN mk)
    (hbp : bp < P) (hw : W (a i * 4 + bp) ≤ 100) (hs : hp_Le a PR ST FN i bp (W (a i * 4 + bp)) (hp_mx EV (a i) (hp_ar EU EC PR FN bp) 0 m) bs) :
    bs + W (a i * 4 + bp) ≤ 200 * (i + 1) ∧ (∀ mk', mk' ≤ 200 * (i + 1) → hp_PK P m W EU EV a (i + 1) (hp_u PR (a i) bp) (hp_u ST (a i) bs) (hp_u FN (a i) (bs + W (a i * 4 + bp))) mk') := by
  have hr := hp_PKr (p := bp) hE hB hi h
  have hbs : bs ≤ 200 * i + 100 := hp_LeB (B := 200 * i + 100) (fun j hj => by have := (h.1 j hj).2.2; omega) hr hs
  obtain ⟨h1, h2, h3, h4⟩ := h
  have ne : ∀ j, j < i → a j ≠ a i := fun j hj q => by have := hp_soI S (by omega) hi q; omega
  refine ⟨by omega, fun mk' hmk => ⟨fun j hj => ?_, fun e j he hj q => ?_, fun j k hjk hk hp => ?_, hmk⟩⟩
  · by_cases e : j = i
    · subst e
      rw [hp_us, hp_us, hp_us]
      exact ⟨hbp, rfl, by omega⟩
    · have z := ne j (by omega)
      rw [hp_un z, hp_un z, hp_un z]
      exact h1 j (by omega)
  · obtain ⟨k, hk, w⟩ := hB e j he (by omega) q
    have z : EU e ≠ a i := by rw [← w]; exact ne k (by omega)
    by_cases y : j = i
    · subst y
      rw [hp_un z, q, hp_us]
      have g := hp_mxG (K := EV) (t := a j) (g := hp_ar EU EC PR FN bp) (b := 0) m e he q
      have g2 : FN (EU e) ≤ hp_ar EU EC PR FN bp e := Nat.le_add_right _ _
      have := hs.1
      omega
    · have y2 := ne j (by omega)
      rw [hp_un z, q, hp_un y2, ← q]
      exact h2 e j he (by omega) q
  · have zj := ne j (by omega)
    by_cases y : k = i
    · subst y
      rw [hp_un zj, hp_us] at hp
      rw [hp_un zj, hp_un zj, hp_us, hp_us]
      have := hs.2.1 j (by omega) hp
      omega
    · have zk := ne k (by omega)
      rw [hp_un zj, hp_un zk] at hp
      rw [hp_un zj, hp_un zj, hp_un zk, hp_un zk]
      exact h3 j k hjk (by omega) hp
/-- what a finished plan holds -/
def hp_Pl (P n m : Nat) (W EU EV PR ST FN : Nat → Nat) : Prop :=
  (∀ t, t < n → PR t < P ∧ FN t = ST t + W (t * 4 + PR t) ∧ FN t ≤ 3200) ∧ (∀ e, e < m → FN (EU e) ≤ ST (EV e)) ∧
  (∀ t t', t < n → t' < n → PR t = PR t' → ST t = ST t' → t = t')
theorem hp_PKe {P m n : Nat} {W EU EV EC a G PR ST FN : Nat → Nat} {mk : Nat} (GG : hp_G P n m W EU EV EC) (S : hp_So n G a) (h : hp_PK P m W EU EV a n PR ST FN mk) : hp_Pl P n m W EU EV PR ST FN := by
  obtain ⟨h1, h2, h3, h4⟩ := h
  obtain ⟨hP1, hP, hn, hm, hW, hE, hT⟩ := GG
  have key : ∀ j k, j < k → k < n → PR (a j) = PR (a k) → ST (a j) = ST (a k) → False := by
    intro j k hjk hk hp hs
    have x := h1 j (by omega)
    have y := h1 k hk
    have x2 := hW (a j) _ (S.1 j (by omega)) x.1
    have y2 := hW (a k) _ (S.1 k hk) y.1
    have := h3 j k hjk hk hp
    omega
  refine ⟨fun t ht => ?_, fun e he => ?_, fun t t' ht ht' hp hs => ?_⟩
  · obtain ⟨j, hj, rfl⟩ := S.2.1 t ht
    have := h1 j hj
    exact ⟨this.1, this.2.1, by omega⟩
  · obtain ⟨j, hj, w⟩ := S.2.1 (EV e) (hE e he).2.1
    exact h2 e j he hj w.symm
  · obtain ⟨j, hj, rfl⟩ := S.2.1 t ht
    obtain ⟨k, hk, rfl⟩ := S.2.1 t' ht'
    rcases Nat.lt_trichotomy j k with z | z | z
    · exact (key j k z hk hp hs).elim
    · rw [z]
    · exact (key k j z hj hp.symm hs.symm).elim
