/-! ===== the order of the tasks: by G, then by number ===== -/
def hp_bf (G : Nat → Nat) (x y : Nat) : Prop := G x < G y ∨ (G x = G y ∧ x < y)
def hp_So (n : Nat) (G a : Nat → Nat) : Prop :=
  (∀ i, i < n → a i < n) ∧ (∀ x, x < n → ∃ i, i < n ∧ a i = x) ∧ (∀ i j, i < j → j < n → hp_bf G (a i) (a j))
theorem hp_bfN {G : Nat → Nat} {x y : Nat} (h : hp_bf G x y) (g : hp_bf G y x) : False := by
  unfold hp_bf at h g
  omega
theorem hp_soI {n : Nat} {G a : Nat → Nat} (h : hp_So n G a) {i j : Nat} (hi : i < n) (hj : j < n) (e : a i = a j) : i = j := by
  rcases Nat.lt_trichotomy i j with z | z | z
  · have := h.2.2 i j z hj
    rw [e] at this
    unfold hp_bf at this
    omega
  · exact z
  · have := h.2.2 j i z hi
    rw [e] at this
    unfold hp_bf at this
    omega
theorem hp_so0 (G a : Nat → Nat) : hp_So 0 G a := ⟨fun i h => by omega, fun i h => by omega, fun i j _ h => by omega⟩
/-- while task t moves down: place q, the list l, the list l0 at its beginning -/
def hp_In (G l0 : Nat → Nat) (t q : Nat) (l : Nat → Nat) : Prop :=
  q ≤ t ∧ (∀ j, j < q → l j = l0 j) ∧ (∀ j, q < j → j ≤ t → l j = l0 (j - 1)) ∧ (∀ j, q ≤ j → j < t → G t < G (l0 j)) ∧ (∀ j, t < j → l j = l0 j)
theorem hp_In0 (G l0 : Nat → Nat) (t : Nat) : hp_In G l0 t t l0 :=
  ⟨Nat.le_refl _, fun _ _ => rfl, fun j h1 h2 => by omega, fun j h1 h2 => by omega, fun _ _ => rfl⟩
theorem hp_Ins {G l0 l : Nat → Nat} {t q : Nat} (h : hp_In G l0 t (q + 1) l) (hg : G t < G (l q)) : hp_In G l0 t q (hp_u l (q + 1) (l q)) := by
  obtain ⟨h1, h2, h3, h4, h5⟩ := h
  refine ⟨by omega, fun j hj => ?_, fun j hj hjt => ?_, fun j hj hjt => ?_, fun j hj => ?_⟩
  · rw [hp_un (by omega)]; exact h2 j (by omega)
  · by_cases e : j = q + 1
    · subst e
      rw [hp_us, h2 q (by omega), Nat.add_sub_cancel]
    · rw [hp_un e]; exact h3 j (by omega) hjt
  · by_cases e : j = q
    · subst e
      rw [← h2 j (by omega)]; exact hg
    · exact h4 j (by omega) hjt
  · rw [hp_un (by omega)]; exact h5 j hj
theorem hp_Ine {G l0 l : Nat → Nat} {t q : Nat} (S : hp_So t G l0) (h : hp_In G l0 t q l) (hg : q = 0 ∨ ¬ G t < G (l (q - 1))) :
    hp_So (t + 1) G (hp_u l q t) ∧ ∀ j, t + 1 ≤ j → hp_u l q t j = l0 j := by
  obtain ⟨h1, h2, h3, h4, h5⟩ := h
  obtain ⟨s1, s2, s3⟩ := S
  have low : ∀ i, i < q → G (l0 i) ≤ G t := by
    intro i hi
    rcases hg with hg | hg
    · omega
    · rw [h2 (q - 1) (by omega)] at hg
      by_cases e : i = q - 1
      · rw [e]; omega
      · have := s3 i (q - 1) (by omega) (by omega)
        unfold hp_bf at this
        omega
  have vlo : ∀ i, i < q → hp_u l q t i = l0 i := fun i hi => by rw [hp_un (by omega)]; exact h2 i hi
  have vhi : ∀ i, q < i → i ≤ t → hp_u l q t i = l0 (i - 1) := fun i hi ht => by rw [hp_un (by omega)]; exact h3 i hi ht
  refine ⟨⟨fun i hi => ?_, fun x hx => ?_, fun i j hij hj => ?_⟩, fun j hj => ?_⟩
  · rcases Nat.lt_trichotomy i q with z | z | z
    · rw [vlo i z]; have := s1 i (by omega); omega
    · subst z; rw [hp_us]; omega
    · rw [vhi i z (by omega)]; have := s1 (i - 1) (by omega); omega
  · by_cases e : x = t
    · subst e; exact ⟨q, by omega, hp_us⟩
    · obtain ⟨i, hi, ei⟩ := s2 x (by omega)
      rcases Nat.lt_or_ge i q with z | z
      · exact ⟨i, by omega, by rw [vlo i z]; exact ei⟩
      · exact ⟨i + 1, by omega, by rw [vhi (i + 1) (by omega) (by omega)]; exact ei⟩
  · rcases Nat.lt_trichotomy j q with z | z | z
    · rw [vlo i (by omega), vlo j z]; exact s3 i j hij (by omega)
    · subst z
      rw [vlo i hij, hp_us]
      have a := low i hij
      have b := s1 i (by omega)
      unfold hp_bf
      omega
    · rw [vhi j z (by omega)]
      rcases Nat.lt_trichotomy i q with y | y | y
      · rw [vlo i y]; exact s3 i (j - 1) (by omega) (by omega)
      · subst y
        rw [hp_us]
        exact Or.inl (h4 (j - 1) (by omega) (by omega))
      · rw [vhi i y (by omega)]; exact s3 (i - 1) (j - 1) (by omega) (by omega)
  · rw [hp_un (by omega)]; exact h5 j (by omega)
/-! ===== the reference's choice of the next ===== -/
/-- after looking at all below t: nothing yet, or b -/
def hp_Sc (G : Nat → Nat) (U : Nat → Prop) (t : Nat) : Option Nat → Prop
  | none => ∀ x, x < t → U x
  | some b => b < t ∧ ¬ U b ∧ ∀ x, x < t → ¬ U x → x = b ∨ hp_bf G b x
theorem hp_Sc0 (G : Nat → Nat) (U : Nat → Prop) : hp_Sc G U 0 none := fun x h => by omega
theorem hp_ScU {G : Nat → Nat} {U : Nat → Prop} {t : Nat} {o : Option Nat} (h : hp_Sc G U t o) (hu : U t) : hp_Sc G U (t + 1) o := by
  cases o with
  | none => exact fun x hx => if e : x = t then by rw [e]; exact hu else h x (by omega)
  | some b =>
    refine ⟨by have := h.1; omega, h.2.1, fun x hx hn => ?_⟩
    by_cases e : x = t
    · rw [e] at hn; exact absurd hu hn
    · exact h.2.2 x (by omega) hn
theorem hp_ScN {G : Nat → Nat} {U : Nat → Prop} {t : Nat} (h : hp_Sc G U t none) (hu : ¬ U t) : hp_Sc G U (t + 1) (some t) := by
  refine ⟨by omega, hu, fun x hx hn => ?_⟩
  by_cases e : x = t
  · exact Or.inl e
  · exact absurd (h x (by omega)) hn
theorem hp_ScB {G : Nat → Nat} {U : Nat → Prop} {t b : Nat} (h : hp_Sc G U t (some b)) (hu : ¬ U t) (hg : G t < G b) : hp_Sc G U (t + 1) (some t) := by
  refine ⟨by omega, hu, fun x hx hn => ?_⟩
  by_cases e : x = t
  · exact Or.inl e
  · refine Or.inr (Or.inl ?_)
    rcases h.2.2 x (by omega) hn with q | q
    · rw [q]; exact hg
    · unfold hp_bf at q; omega
theorem hp_ScK {G : Nat → Nat} {U : Nat → Prop} {t b : Nat} (h : hp_Sc G U t (some b)) (hg : ¬ G t < G b) : hp_Sc G U (t + 1) (some b) := by
  obtain ⟨h1, h2, h3⟩ := h
  refine ⟨by omega, h2, fun x hx hn => ?_⟩
  by_cases e : x = t
  · refine Or.inr ?_
    subst e
    unfold hp_bf
    omega
  · exact h3 x (by omega) hn
/-- the next is the sorted list's next -/
theorem hp_ScE {n : Nat} {G a : Nat → Nat} {U : Nat → Prop} {i : Nat} {o : Option Nat} (S : hp_So n G a) (hi : i < n) (hU : ∀ x, x < n → (U x ↔ ∃ j, j < i ∧ a j = x)) (h : hp_Sc G U n o) : o = some (a i) := by
  have hai := S.1 i hi
  have hnu : ¬ U (a i) := by
    intro q
    obtain ⟨j, hj, e⟩ := (hU _ hai).mp q
    have := hp_soI S (by omega) hi e
    omega
  cases o with
  | none => exact absurd (h _ hai) hnu
  | some b =>
    obtain ⟨h1, h2, h3⟩ := h
    obtain ⟨j, hj, e⟩ := S.2.1 b h1
    rcases Nat.lt_trichotomy j i with z | z | z
    · exact absurd ((hU b h1).mpr ⟨j, z, e⟩) h2
    · rw [← e, z]
    · exfalso
      have q := S.2.2 i j z hj
      rw [e] at q
      rcases h3 _ hai hnu with w | w
      · rw [w] at q; unfold hp_bf at q; omega
      · exact hp_bfN q w
/-- head of step i of the choice -/
def hp_Se (n : Nat) (a o0 : Nat → Nat) (i : Nat) (us o : Nat → Nat) : Prop :=
  (∀ j, j < i → o j = a j) ∧ (∀ j, i ≤ j → o j = o0 j) ∧ (∀ x, x < n → us x ≤ 1) ∧ (∀ x, x < n → (us x = 1 ↔ ∃ j, j < i ∧ a j = x))
theorem hp_Se0 {n : Nat} {a o0 us : Nat → Nat} (h : ∀ x, x < n → us x = 0) : hp_Se n a o0 0 us o0 :=
  ⟨fun j h => by omega, fun _ _ => rfl, fun x hx => by rw [h x hx]; omega, fun x hx => ⟨fun q => by have := h x hx; omega, fun ⟨j, q, _⟩ => by omega⟩⟩
theorem hp_Ses {n : Nat} {G a o0 us o : Nat → Nat} {i : Nat} (S : hp_So n G a) (hi : i < n) (h : hp_Se n a o0 i us o) : hp_Se n a o0 (i + 1) (hp_u us (a i) 1) (hp_u o i (a i)) := by
  obtain ⟨h1, h2, h3, h4⟩ := h
  refine ⟨fun j hj => ?_, fun j hj => ?_, fun x hx => ?_, fun x hx => ?_⟩
  · by_cases e : j = i
    · subst e; rw [hp_us]
    · rw [hp_un e]; exact h1 j (by omega)
  · rw [hp_un (by omega)]; exact h2 j (by omega)
  · by_cases e : x = a i
    · subst e; rw [hp_us]; omega
    · rw [hp_un e]; exact h3 x hx
  · by_cases e : x = a i
    · subst e; rw [hp_us]; exact ⟨fun _ => ⟨i, by omega, rfl⟩, fun _ => rfl⟩
    · rw [hp_un e, h4 x hx]
      refine ⟨fun ⟨j, hj, q⟩ => ⟨j, by omega, q⟩, fun ⟨j, hj, q⟩ => ⟨j, ?_, q⟩⟩
      by_cases z : j = i
      · subst z; exact absurd q.symm e
      · omega
theorem hp_Seu {n : Nat} {a o0 us o : Nat → Nat} (h : hp_Se n a o0 n us o) (ha : ∀ j, n ≤ j → a j = o0 j) : o = a := by
  funext j
  rcases Nat.lt_or_ge j n with z | z
  · exact h.1 j z
  · rw [h.2.1 j z, ha j z]
