/-! ===== the greatest of some values ===== -/
def hp_mx (K : Nat → Nat) (t : Nat) (g : Nat → Nat) (b : Nat) : Nat → Nat
  | 0 => b
  | e + 1 => if K e = t then (if hp_mx K t g b e < g e then g e else hp_mx K t g b e) else hp_mx K t g b e
theorem hp_mx1 {K : Nat → Nat} {t : Nat} {g : Nat → Nat} {b e : Nat} (h : K e = t) (h2 : hp_mx K t g b e < g e) : hp_mx K t g b (e + 1) = g e := by
  rw [hp_mx, if_pos h, if_pos h2]
theorem hp_mx2 {K : Nat → Nat} {t : Nat} {g : Nat → Nat} {b e : Nat} (h : K e = t) (h2 : ¬ hp_mx K t g b e < g e) : hp_mx K t g b (e + 1) = hp_mx K t g b e := by
  rw [hp_mx, if_pos h, if_neg h2]
theorem hp_mx3 {K : Nat → Nat} {t : Nat} {g : Nat → Nat} {b e : Nat} (h : ¬ K e = t) : hp_mx K t g b (e + 1) = hp_mx K t g b e := by
  rw [hp_mx, if_neg h]
theorem hp_mxB {K : Nat → Nat} {t : Nat} {g : Nat → Nat} {b : Nat} : ∀ m, b ≤ hp_mx K t g b m
  | 0 => Nat.le_refl _
  | e + 1 => by
    have ih := hp_mxB (K := K) (t := t) (g := g) (b := b) e
    by_cases h : K e = t
    · by_cases h2 : hp_mx K t g b e < g e
      · rw [hp_mx1 h h2]; omega
      · rw [hp_mx2 h h2]; exact ih
    · rw [hp_mx3 h]; exact ih
theorem hp_mxG {K : Nat → Nat} {t : Nat} {g : Nat → Nat} {b : Nat} : ∀ m e, e < m → K e = t → g e ≤ hp_mx K t g b m
  | 0, e, he, _ => by omega
  | m + 1, e, he, hK => by
    rcases Nat.lt_or_ge e m with z | z
    · have ih := hp_mxG (K := K) (t := t) (g := g) (b := b) m e z hK
      by_cases h : K m = t
      · by_cases h2 : hp_mx K t g b m < g m
        · rw [hp_mx1 h h2]; omega
        · rw [hp_mx2 h h2]; exact ih
      · rw [hp_mx3 h]; exact ih
    · have e1 : e = m := by omega
      subst e1
      by_cases h2 : hp_mx K t g b e < g e
      · rw [hp_mx1 hK h2]; omega
      · rw [hp_mx2 hK h2]; omega
theorem hp_mxL {K : Nat → Nat} {t : Nat} {g : Nat → Nat} {b c : Nat} (hb : b ≤ c) : ∀ m, (∀ e, e < m → K e = t → g e ≤ c) → hp_mx K t g b m ≤ c
  | 0, _ => hb
  | m + 1, hg => by
    have ih := hp_mxL (K := K) (t := t) (g := g) hb m (fun e he => hg e (by omega))
    by_cases h : K m = t
    · by_cases h2 : hp_mx K t g b m < g m
      · rw [hp_mx1 h h2]; exact hg m (by omega) h
      · rw [hp_mx2 h h2]; exact ih
    · rw [hp_mx3 h]; exact ih
theorem hp_mxA {K : Nat → Nat} {t : Nat} {g : Nat → Nat} {b : Nat} : ∀ m, hp_mx K t g b m = b ∨ ∃ e, e < m ∧ K e = t ∧ hp_mx K t g b m = g e
  | 0 => Or.inl rfl
  | m + 1 => by
    have ih := hp_mxA (K := K) (t := t) (g := g) (b := b) m
    have up : (hp_mx K t g b m = b ∨ ∃ e, e < m ∧ K e = t ∧ hp_mx K t g b m = g e) → (hp_mx K t g b m = b ∨ ∃ e, e < m + 1 ∧ K e = t ∧ hp_mx K t g b m = g e) := by
      intro q
      rcases q with q | ⟨e, h1, h2, h3⟩
      · exact Or.inl q
      · exact Or.inr ⟨e, by omega, h2, h3⟩
    by_cases h : K m = t
    · by_cases h2 : hp_mx K t g b m < g m
      · rw [hp_mx1 h h2]; exact Or.inr ⟨m, by omega, h, rfl⟩
      · rw [hp_mx2 h h2]; exact up ih
    · rw [hp_mx3 h]; exact up ih
theorem hp_mxM {K : Nat → Nat} {t : Nat} {g g' : Nat → Nat} {b b' : Nat} (m : Nat) (hb : b ≤ b') (hg : ∀ e, e < m → K e = t → g e ≤ g' e) : hp_mx K t g b m ≤ hp_mx K t g' b' m :=
  hp_mxL (Nat.le_trans hb (hp_mxB m)) m (fun e he hK => Nat.le_trans (hg e he hK) (hp_mxG m e he hK))
theorem hp_mxC {K : Nat → Nat} {t : Nat} {g g' : Nat → Nat} {b b' : Nat} (m : Nat) (hb : b = b') (hg : ∀ e, e < m → K e = t → g e = g' e) : hp_mx K t g b m = hp_mx K t g' b' m :=
  Nat.le_antisymm (hp_mxM m (by omega) fun e he hK => by rw [hg e he hK]; exact Nat.le_refl _) (hp_mxM m (by omega) fun e he hK => by rw [hg e he hK]; exact Nat.le_refl _)
/-- a base other than 0 -/
theorem hp_mxZ {K : Nat → Nat} {t : Nat} {g : Nat → Nat} {b : Nat} (m : Nat) : hp_mx K t g b m = if hp_mx K t g 0 m < b then b else hp_mx K t g 0 m := by
  have h1 := hp_mxM (K := K) (t := t) (g := g) (g' := g) (b := 0) (b' := b) m (Nat.zero_le _) (fun _ _ _ => Nat.le_refl _)
  have h2 := hp_mxB (K := K) (t := t) (g := g) (b := b) m
  have h3 : hp_mx K t g b m ≤ if hp_mx K t g 0 m < b then b else hp_mx K t g 0 m := by
    refine hp_mxL ?_ m (fun e he hK => ?_)
    · split <;> omega
    · have := hp_mxG (K := K) (t := t) (g := g) (b := 0) m e he hK
      split <;> omega
  by_cases c : hp_mx K t g 0 m < b
  · rw [if_pos c] at h3 ⊢
    omega
  · rw [if_neg c] at h3 ⊢
    omega
/-! ===== ranks ===== -/
def hp_tc (W : Nat → Nat) (t : Nat) : Nat → Nat
  | 0 => 0
  | p + 1 => hp_tc W t p + W (t * 4 + p)
theorem hp_tcB {W : Nat → Nat} {t : Nat} : ∀ p, (∀ q, q < p → W (t * 4 + q) ≤ 100) → hp_tc W t p ≤ 100 * p
  | 0, _ => Nat.le_refl _
  | p + 1, h => by
    have := hp_tcB (W := W) (t := t) p (fun q hq => h q (by omega))
    have := h p (by omega)
    rw [hp_tc]
    omega
theorem hp_tcP {W : Nat → Nat} {t p : Nat} (h : 0 < W (t * 4 + 0)) (hp : 0 < p) : 0 < hp_tc W t p := by
  obtain ⟨q, rfl⟩ : ∃ q, p = q + 1 := ⟨p - 1, by omega⟩
  clear hp
  induction q with
  | zero => show 0 < 0 + W (t * 4 + 0); omega
  | succ q ih => rw [hp_tc]; omega
/-- one reckoning of t's rank out of the ranks r -/
def hp_F (P m : Nat) (W EU EV EC : Nat → Nat) (r : Nat → Nat) (t : Nat) : Nat := hp_tc W t P + hp_mx EU t (fun e => P * EC e + r (EV e)) 0 m
/-- what the graph holds -/
def hp_G (P n m : Nat) (W EU EV EC : Nat → Nat) : Prop :=
  1 ≤ P ∧ P ≤ 4 ∧ n ≤ 16 ∧ m ≤ 32 ∧ (∀ t p, t < n → p < P → 1 ≤ W (t * 4 + p) ∧ W (t * 4 + p) ≤ 100) ∧ (∀ e, e < m → EU e < n ∧ EV e < n ∧ EC e ≤ 100) ∧ hp_Top m EU EV
theorem hp_Pm {P c : Nat} (hP : P ≤ 4) (hc : c ≤ 100) : P * c ≤ 400 := Nat.le_trans (Nat.mul_le_mul hP hc) (by decide)
/-- the ranks: there are some, they are bounded, and levels L go with them -/
def hp_Rk (P n m : Nat) (W EU EV EC : Nat → Nat) (L R : Nat → Nat) : Prop :=
  (∀ t, t < n → L t < n) ∧ (∀ e, e < m → L (EU e) < L (EV e)) ∧ (∀ t, t < n → R t = hp_F P m W EU EV EC R t) ∧ (∀ t, t < n → R t ≤ 12800)
theorem hp_rkE {P n m : Nat} {W EU EV EC : Nat → Nat} (G : hp_G P n m W EU EV EC) : ∃ L R, hp_Rk P n m W EU EV EC L R := by
  obtain ⟨hP1, hP, hn, hm, hW, hE, hT⟩ := G
  obtain ⟨L, hL1, hL2⟩ := hp_topL hT (fun e he => (hE e he).1)
  obtain ⟨R, hR⟩ := fx (V := Nat) (fun t => n - L t) (hp_F P m W EU EV EC)
  have hF : ∀ t, t < n → R t = hp_F P m W EU EV EC R t := by
    intro t ht
    rw [hR t]
    unfold hp_F
    refine congrArg (fun z => hp_tc W t P + z) (hp_mxC m rfl fun e he hK => ?_)
    have h1 := hL2 e he
    rw [hK] at h1
    have h2 := hL1 _ (hE e he).2.1
    show P * EC e + (if n - L (EV e) < n - L t then R (EV e) else default) = P * EC e + R (EV e)
    rw [if_pos (by omega)]
  refine ⟨L, R, hL1, hL2, hF, ?_⟩
  have key : ∀ k t, t < n → n - L t ≤ k → R t ≤ 800 * k := by
    intro k
    induction k with
    | zero => intro t ht h; have := hL1 t ht; omega
    | succ k ih =>
      intro t ht h
      rw [hF t ht]
      unfold hp_F
      have h1 := hp_tcB (W := W) (t := t) P (fun q hq => (hW t q ht hq).2)
      have h2 : hp_mx EU t (fun e => P * EC e + R (EV e)) 0 m ≤ 400 + 800 * k := by
        refine hp_mxL (by omega) m (fun e he hK => ?_)
        have a := hL2 e he
        rw [hK] at a
        have b := ih (EV e) (hE e he).2.1 (by omega)
        have c := hp_Pm hP (hE e he).2.2
        show P * EC e + R (EV e) ≤ _
        omega
      omega
  intro t ht
  have := key n t ht (by omega)
  omega
/-- the class: raising along the edges; head of pass k -/
def hp_XK (P n m : Nat) (W EU EV EC : Nat → Nat) (L R r0 : Nat → Nat) (k : Nat) (r : Nat → Nat) : Prop :=
  (∀ j, j < n → hp_tc W j P ≤ r j ∧ r j ≤ R j) ∧ (∀ j, j < n → n - L j ≤ k → r j = R j) ∧ (∀ j, n ≤ j → r j = r0 j)
def hp_XE (P n m : Nat) (W EU EV EC : Nat → Nat) (L R r0 : Nat → Nat) (k i : Nat) (r : Nat → Nat) : Prop :=
  hp_XK P n m W EU EV EC L R r0 k r ∧ (∀ e, e < i → n - L (EU e) ≤ k + 1 → hp_tc W (EU e) P + (P * EC e + R (EV e)) ≤ r (EU e))
theorem hp_XK0 {P n m : Nat} {W EU EV EC L R r0 r : Nat → Nat} (H : hp_Rk P n m W EU EV EC L R) (h : ∀ j, j < n → r j = hp_tc W j P) (h2 : ∀ j, n ≤ j → r j = r0 j) : hp_XK P n m W EU EV EC L R r0 0 r := by
  obtain ⟨hL1, hL2, hF, -⟩ := H
  refine ⟨fun j hj => ⟨?_, ?_⟩, fun j hj hk => ?_, h2⟩
  · rw [h j hj]; exact Nat.le_refl _
  · rw [h j hj, hF j hj]; exact Nat.le_add_right _ _
  · have := hL1 j hj
    omega
theorem hp_XEs {P n m : Nat} {W EU EV EC L R r0 r : Nat → Nat} {k i : Nat} (H : hp_Rk P n m W EU EV EC L R) (hu : EU i < n) (hv : EV i < n) (hi : i < m) (h : hp_XE P n m W EU EV EC L R r0 k i r) :
    (hp_tc W (EU i) P + P * EC i + r (EV i) ≤ R (EU i)) ∧
    (r (EU i) < hp_tc W (EU i) P + P * EC i + r (EV i) → hp_XE P n m W EU EV EC L R r0 k (i + 1) (hp_u r (EU i) (hp_tc W (EU i) P + P * EC i + r (EV i)))) ∧
    (¬ r (EU i) < hp_tc W (EU i) P + P * EC i + r (EV i) → hp_XE P n m W EU EV EC L R r0 k (i + 1) r) := by
  obtain ⟨hL1, hL2, hF, -⟩ := H
  obtain ⟨⟨h1, h2, h3⟩, h4⟩ := h
  have hR : hp_tc W (EU i) P + (P * EC i + R (EV i)) ≤ R (EU i) := by
    rw [hF _ hu]
    unfold hp_F
    exact Nat.add_le_add_left (hp_mxG (K := EU) (t := EU i) (g := fun e => P * EC e + R (EV e)) m i hi rfl) _
  have hv1 := (h1 _ hv).2
  have hb : hp_tc W (EU i) P + P * EC i + r (EV i) ≤ R (EU i) := by omega
  have hex : n - L (EU i) ≤ k + 1 → r (EV i) = R (EV i) := fun q => h2 _ hv (by have := hL2 i hi; omega)
  refine ⟨hb, fun hlt => ⟨⟨fun j hj => ?_, fun j hj hk => ?_, fun j hj => ?_⟩, fun e he hk => ?_⟩, fun hlt => ⟨⟨h1, h2, h3⟩, fun e he hk => ?_⟩⟩
  · by_cases e : j = EU i
    · subst e; rw [hp_us]; have := (h1 _ hu).1; exact ⟨by omega, hb⟩
    · rw [hp_un e]; exact h1 j hj
  · by_cases e : j = EU i
    · subst e
      have := h2 _ hu hk
      omega
    · rw [hp_un e]; exact h2 j hj hk
  · rw [hp_un (by omega)]; exact h3 j hj
  · have old : e < i → hp_tc W (EU e) P + (P * EC e + R (EV e)) ≤ r (EU e) := fun z => h4 e z hk
    by_cases q : EU e = EU i
    · rw [q, hp_us]
      rcases Nat.lt_or_ge e i with z | z
      · have := old z
        rw [q] at this
        omega
      · have e1 : e = i := by omega
        subst e1
        have := hex hk
        omega
    · rw [hp_un q]
      rcases Nat.lt_or_ge e i with z | z
      · exact old z
      · have e1 : e = i := by omega
        subst e1
        exact absurd rfl q
  · rcases Nat.lt_or_ge e i with z | z
    · exact h4 e z hk
    · have e1 : e = i := by omega
      subst e1
      have := hex hk
      omega
theorem hp_XEe {P n m : Nat} {W EU EV EC L R r0 r : Nat → Nat} {k : Nat} (H : hp_Rk P n m W EU EV EC L R) (h : hp_XE P n m W EU EV EC L R r0 k m r) : hp_XK P n m W EU EV EC L R r0 (k + 1) r := by
  obtain ⟨hL1, hL2, hF, -⟩ := H
  obtain ⟨⟨h1, h2, h3⟩, h4⟩ := h
  refine ⟨h1, fun j hj hk => ?_, h3⟩
  refine Nat.le_antisymm (h1 j hj).2 ?_
  have e := hF j hj
  unfold hp_F at e
  rcases hp_mxA (K := EU) (t := j) (g := fun e => P * EC e + R (EV e)) (b := 0) m with q | ⟨i, hi, hK, q⟩
  · have := (h1 j hj).1
    omega
  · have := h4 i hi (by rw [hK]; exact hk)
    rw [hK] at this
    rw [e, q]
    exact this
/-- the reference: passes of reckoning; head of pass k, then within it -/
def hp_YK (n : Nat) (L R r0 : Nat → Nat) (k : Nat) (r : Nat → Nat) : Prop :=
  (∀ j, j < n → r j ≤ R j) ∧ (∀ j, j < n → n - L j ≤ k → r j = R j) ∧ (∀ j, n ≤ j → r j = r0 j)
def hp_YE (n : Nat) (L R r0 : Nat → Nat) (k i : Nat) (r : Nat → Nat) : Prop :=
  hp_YK n L R r0 k r ∧ (∀ j, j < i → n - L j ≤ k + 1 → r j = R j)
theorem hp_YK0 {P n m : Nat} {W EU EV EC L R r0 r : Nat → Nat} (H : hp_Rk P n m W EU EV EC L R) (h : ∀ j, j < n → r j = 0) (h2 : ∀ j, n ≤ j → r j = r0 j) : hp_YK n L R r0 0 r :=
  ⟨fun j hj => by rw [h j hj]; exact Nat.zero_le _, fun j hj hk => by have := H.1 j hj; omega, h2⟩
theorem hp_Fle {P n m : Nat} {W EU EV EC L R r : Nat → Nat} {t : Nat} (H : hp_Rk P n m W EU EV EC L R) (hE : ∀ e, e < m → EV e < n) (ht : t < n) (h : ∀ j, j < n → r j ≤ R j) : hp_F P m W EU EV EC r t ≤ R t := by
  rw [H.2.2.1 t ht]
  unfold hp_F
  refine Nat.add_le_add_left (hp_mxM m (Nat.le_refl _) fun e he _ => ?_) _
  exact Nat.add_le_add_left (h _ (hE e he)) _
theorem hp_YEs {P n m : Nat} {W EU EV EC L R r0 r : Nat → Nat} {k i : Nat} (H : hp_Rk P n m W EU EV EC L R) (hE : ∀ e, e < m → EV e < n) (hi : i < n) (h : hp_YE n L R r0 k i r) :
    hp_YE n L R r0 k (i + 1) (hp_u r i (hp_F P m W EU EV EC r i)) := by
  obtain ⟨⟨h1, h2, h3⟩, h4⟩ := h
  have hle := hp_Fle (W := W) (EC := EC) H hE hi h1
  have heq : n - L i ≤ k + 1 → hp_F P m W EU EV EC r i = R i := by
    intro q
    rw [H.2.2.1 i hi]
    unfold hp_F
    refine congrArg (fun z => hp_tc W i P + z) (hp_mxC m rfl fun e he hK => ?_)
    have a := H.2.1 e he
    rw [hK] at a
    show P * EC e + r (EV e) = P * EC e + R (EV e)
    rw [h2 _ (hE e he) (by omega)]
  refine ⟨⟨fun j hj => ?_, fun j hj hk => ?_, fun j hj => ?_⟩, fun j hj hk => ?_⟩
  · by_cases e : j = i
    · subst e; rw [hp_us]; exact hle
    · rw [hp_un e]; exact h1 j hj
  · by_cases e : j = i
    · subst e; rw [hp_us]; exact heq (by omega)
    · rw [hp_un e]; exact h2 j hj hk
  · rw [hp_un (by omega)]; exact h3 j hj
  · by_cases e : j = i
    · subst e; rw [hp_us]; exact heq hk
    · rw [hp_un e]; exact h4 j (by omega) hk
theorem hp_YEe {n : Nat} {L R r0 r : Nat → Nat} {k : Nat} (h : hp_YE n L R r0 k n r) : hp_YK n L R r0 (k + 1) r :=
  ⟨h.1.1, fun j hj hk => h.2 j hj hk, h.1.2.2⟩
/-- both end with the same array -/
theorem hp_rkU {P n m : Nat} {W EU EV EC L R r0 r r' : Nat → Nat} (h : hp_XK P n m W EU EV EC L R r0 n r) (g : hp_YK n L R r0 n r') : r' = r := by
  funext j
  rcases Nat.lt_or_ge j n with z | z
  · rw [h.2.1 j z (by omega), g.2.1 j z (by omega)]
  · rw [h.2.2 j z, g.2.2 j z]
/-- a task's rank is above its followers' -/
theorem hp_rkD {P n m : Nat} {W EU EV EC L R : Nat → Nat} (G : hp_G P n m W EU EV EC) (H : hp_Rk P n m W EU EV EC L R) {e : Nat} (he : e < m) : R (EV e) < R (EU e) := by
  obtain ⟨hP1, hP, hn, hm, hW, hE, hT⟩ := G
  rw [H.2.2.1 _ (hE e he).1]
  unfold hp_F
  have a := hp_mxG (K := EU) (t := EU e) (g := fun e => P * EC e + R (EV e)) (b := 0) m e he rfl
  have b := hp_tcP (W := W) (t := EU e) (p := P) (by have := hW (EU e) 0 (hE e he).1 (by omega); omega) (by omega)
  have c : P * EC e + R (EV e) ≤ hp_mx EU (EU e) (fun e => P * EC e + R (EV e)) 0 m := a
  omega
