/-! ===== the replay ===== -/
theorem hp_soP {n : Nat} {G a : Nat → Nat} (S : hp_So n G a) {i k : Nat} (hi : i < n) (hk : k < n) (h : G (a k) < G (a i)) : k < i := by
  rcases Nat.lt_trichotomy k i with z | z | z
  · exact z
  · subst z; exact absurd h (Nat.lt_irrefl _)
  · have := S.2.2 i k z hk
    unfold hp_bf at this
    omega
theorem hp_soL {n : Nat} {G a : Nat → Nat} (S : hp_So n G a) {i k : Nat} (hi : i < n) (h : k ≤ i) : G (a k) ≤ G (a i) := by
  by_cases e : k = i
  · rw [e]; exact Nat.le_refl _
  · have := S.2.2 k i (by omega) hi
    unfold hp_bf at this
    omega
/-- the task before t on its processor -/
def hp_pv (n : Nat) (PR ST : Nat → Nat) (t x : Nat) : Prop :=
  x < n ∧ PR x = PR t ∧ ST x < ST t ∧ ∀ y, y < n → PR y = PR t → ST y < ST t → ST y ≤ ST x
def hp_Bs (n : Nat) (PR ST RF : Nat → Nat) (t b : Nat) : Prop :=
  (b = 0 ∧ ∀ x, x < n → PR x = PR t → ¬ ST x < ST t) ∨ (∃ x, hp_pv n PR ST t x ∧ b = RF x)
theorem hp_BsM {n : Nat} {PR ST r R : Nat → Nat} {t b b' : Nat} (hd : ∀ x y, x < n → y < n → PR x = PR y → ST x = ST y → x = y) (h : hp_Bs n PR ST r t b') (g : hp_Bs n PR ST R t b) :
    ((∀ x, x < n → r x ≤ R x) → b' ≤ b) ∧ ((∀ x, x < n → ST x < ST t → r x = R x) → b' = b) := by
  rcases h with ⟨e1, h⟩ | ⟨x, hx, e1⟩
  · rcases g with ⟨e2, g⟩ | ⟨y, hy, e2⟩
    · exact ⟨fun _ => by omega, fun _ => by omega⟩
    · exact absurd hy.2.2.1 (h y hy.1 hy.2.1)
  · rcases g with ⟨e2, g⟩ | ⟨y, hy, e2⟩
    · exact absurd hx.2.2.1 (g x hx.1 hx.2.1)
    · have a1 := hx.2.2.2 y hy.1 hy.2.1 hy.2.2.1
      have a2 := hy.2.2.2 x hx.1 hx.2.1 hx.2.2.1
      have e : x = y := hd x y hx.1 hy.1 (by rw [hx.2.1, hy.2.1]) (by omega)
      subst e
      rw [e1, e2]
      exact ⟨fun q => q x hx.1, fun q => q x hx.1 hx.2.2.1⟩
theorem hp_BsC {n : Nat} {PR ST r R : Nat → Nat} {t b : Nat} (g : hp_Bs n PR ST r t b) (h : ∀ x, x < n → ST x < ST t → R x = r x) : hp_Bs n PR ST R t b := by
  rcases g with g | ⟨x, hx, e⟩
  · exact Or.inl g
  · exact Or.inr ⟨x, hx, by rw [e, h x hx.1 hx.2.2.1]⟩
/-- one task's replay -/
def hp_R1 (n m : Nat) (W D EU EV EC PR ST RS RF : Nat → Nat) (t : Nat) : Prop :=
  (∃ b, hp_Bs n PR ST RF t b ∧ RS t = hp_mx EV t (hp_ar EU EC PR RF (PR t)) b m) ∧ RF t = RS t + W (t * 4 + PR t) + D t
def hp_Rp (n m : Nat) (W D EU EV EC PR ST RS RF : Nat → Nat) : Prop :=
  ∀ t, t < n → hp_R1 n m W D EU EV EC PR ST RS RF t ∧ RF t ≤ 4800
def hp_XR (P n m : Nat) (W D EU EV EC PR ST BS : Nat → Nat) (i : Nat) (PF RS RF : Nat → Nat) : Prop :=
  (∀ j, j < i → hp_R1 n m W D EU EV EC PR ST RS RF (BS j) ∧ RF (BS j) ≤ 300 * (j + 1)) ∧
  (∀ p, p < P → (PF p = 0 ∧ ∀ j, j < i → PR (BS j) ≠ p) ∨ (∃ j, j < i ∧ PR (BS j) = p ∧ PF p = RF (BS j) ∧ ∀ k, j < k → k < i → PR (BS k) ≠ p))
theorem hp_XR0 {P n m : Nat} {W D EU EV EC PR ST BS PF RS RF : Nat → Nat} (h : ∀ p, p < P → PF p = 0) : hp_XR P n m W D EU EV EC PR ST BS 0 PF RS RF :=
  ⟨fun j hj => by omega, fun p hp => Or.inl ⟨h p hp, fun j hj => by omega⟩⟩
/-- what a task waits for is before it by planned start -/
theorem hp_PlS {P n m : Nat} {W EU EV EC PR ST FN : Nat → Nat} (G : hp_G P n m W EU EV EC) (L : hp_Pl P n m W EU EV PR ST FN) {e : Nat} (he : e < m) : ST (EU e) < ST (EV e) := by
  obtain ⟨hP1, hP, hn, hm, hW, hE, hT⟩ := G
  have a := L.2.1 e he
  have b := L.1 _ (hE e he).1
  have c := hW _ _ (hE e he).1 b.1
  omega
theorem hp_XRb {P n m : Nat} {W D EU EV EC PR ST FN BS PF RS RF : Nat → Nat} {i : Nat} (G : hp_G P n m W EU EV EC) (L : hp_Pl P n m W EU EV PR ST FN) (S : hp_So n ST BS) (hi : i < n) (h : hp_XR P n m W D EU EV EC PR ST BS i PF RS RF) :
    (∀ e, e < m → EV e = BS i → RF (EU e) ≤ 300 * i) ∧ PF (PR (BS i)) ≤ 300 * i := by
  refine ⟨fun e he q => ?_, ?_⟩
  · obtain ⟨k, hk, w⟩ := S.2.1 (EU e) (G.2.2.2.2.2.1 e he).1
    have x := hp_PlS G L he
    rw [q, ← w] at x
    have := hp_soP S hi hk x
    have := (h.1 k this).2
    rw [w] at this
    omega
  · rcases h.2 _ (L.1 _ (S.1 i hi)).1 with ⟨e, _⟩ | ⟨j, hj, _, e, _⟩
    · omega
    · have := (h.1 j hj).2
      omega
theorem hp_XRs {P n m : Nat} {W D EU EV EC PR ST FN BS PF RS RF : Nat → Nat} {i s : Nat} (G : hp_G P n m W EU EV EC) (L : hp_Pl P n m W EU EV PR ST FN) (S : hp_So n ST BS) (hD : ∀ t, t < n → D t ≤ 100) (hi : i < n) (h : hp_XR P n m W D EU EV EC PR ST BS i PF RS RF)
    (hs : s = hp_mx EV (BS i) (hp_ar EU EC PR RF (PR (BS i))) (PF (PR (BS i))) m) :
    s ≤ 300 * i + 100 ∧ hp_XR P n m W D EU EV EC PR ST BS (i + 1) (hp_u PF (PR (BS i)) (s + W (BS i * 4 + PR (BS i)) + D (BS i))) (hp_u RS (BS i) s) (hp_u RF (BS i) (s + W (BS i * 4 + PR (BS i)) + D (BS i))) := by
  obtain ⟨b1, b2⟩ := hp_XRb G L S hi h
  have hbi := S.1 i hi
  have hE := G.2.2.2.2.2.1
  have hd := L.2.2
  have hsb : s ≤ 300 * i + 100 := by
    rw [hs]
    refine hp_mxL (by omega) m (fun e he q => ?_)
    have x := b1 e he q
    have y := (hE e he).2.2
    unfold hp_ar
    split <;> omega
  have hW := (G.2.2.2.2.1 _ _ hbi (L.1 _ hbi).1).2
  have hDi := hD _ hbi
  refine ⟨hsb, ?_⟩
  obtain ⟨h1, h2⟩ := h
  have ne : ∀ j, j < i → BS j ≠ BS i := fun j hj q => by have := hp_soI S (by omega) hi q; omega
  -- nothing below a place j ≤ i in the order by start is BS i
  have low : ∀ j x, j ≤ i → x < n → ST x < ST (BS j) → x ≠ BS i := by
    intro j x hj hx hst
    obtain ⟨k, hk, w⟩ := S.2.1 x hx
    rw [← w] at hst
    have := hp_soP S (by omega) hk hst
    rw [← w]
    exact ne k (by omega)
  refine ⟨fun j hj => ?_, fun p hp => ?_⟩
  · by_cases e : j = i
    · subst e
      refine ⟨⟨⟨PF (PR (BS j)), ?_, ?_⟩, ?_⟩, ?_⟩
      · refine hp_BsC (r := RF) ?_ (fun x hx hst => hp_un (low j x (Nat.le_refl _) hx hst))
        rcases h2 _ (L.1 _ hbi).1 with ⟨e1, e2⟩ | ⟨k, hk, e1, e2, e3⟩
        · refine Or.inl ⟨e1, fun x hx hp hst => ?_⟩
          obtain ⟨k, hk, w⟩ := S.2.1 x hx
          rw [← w] at hst hp
          exact e2 k (hp_soP S hi hk hst) hp
        · have hkn : k < n := by omega
          have hbk := S.1 k hkn
          refine Or.inr ⟨BS k, ⟨hbk, e1, ?_, fun y hy hp hst => ?_⟩, e2⟩
          · have q := S.2.2 k j hk hi
            unfold hp_bf at q
            rcases q with q | ⟨q, _⟩
            · exact q
            · exact absurd (hd _ _ hbk hbi e1 q) (ne k hk)
          · obtain ⟨l, hl, w⟩ := S.2.1 y hy
            rw [← w] at hst hp ⊢
            have hlj := hp_soP S hi hl hst
            rcases Nat.lt_or_ge k l with z | z
            · exact absurd hp (e3 l z hlj)
            · exact hp_soL S hkn z
      · rw [hp_us]
        refine hs.trans (hp_mxC m rfl (fun e he q => ?_))
        have x := hp_PlS G L he
        rw [q] at x
        have y := low j (EU e) (Nat.le_refl _) (hE e he).1 x
        unfold hp_ar
        rw [hp_un y]
      · rw [hp_us, hp_us]
      · rw [hp_us]; omega
    · have z := ne j (by omega)
      obtain ⟨⟨⟨b, c1, c2⟩, c3⟩, c4⟩ := h1 j (by omega)
      refine ⟨⟨⟨b, hp_BsC c1 (fun x hx hst => hp_un (low j x (by omega) hx hst)), ?_⟩, ?_⟩, ?_⟩
      · rw [hp_un z, c2]
        refine hp_mxC m rfl (fun e he q => ?_)
        have x := hp_PlS G L he
        rw [q] at x
        have y := low j (EU e) (by omega) (hE e he).1 x
        unfold hp_ar
        rw [hp_un y]
      · rw [hp_un z, hp_un z]; exact c3
      · rw [hp_un z]; exact c4
  · by_cases e : p = PR (BS i)
    · subst e
      rw [hp_us]
      exact Or.inr ⟨i, by omega, rfl, by rw [hp_us], fun k hk hk2 => by omega⟩
    · rw [hp_un e]
      rcases h2 p hp with ⟨e1, e2⟩ | ⟨j, hj, e1, e2, e3⟩
      · refine Or.inl ⟨e1, fun j hj => ?_⟩
        by_cases z : j = i
        · subst z; exact fun q => e q.symm
        · exact e2 j (by omega)
      · refine Or.inr ⟨j, by omega, e1, by rw [hp_un (ne j hj)]; exact e2, fun k hk hk2 => ?_⟩
        by_cases z : k = i
        · subst z; exact fun q => e q.symm
        · exact e3 k hk (by omega)
theorem hp_XRe {P n m : Nat} {W D EU EV EC PR ST BS PF RS RF : Nat → Nat} (hn : n ≤ 16) (S : hp_So n ST BS) (h : hp_XR P n m W D EU EV EC PR ST BS n PF RS RF) : hp_Rp n m W D EU EV EC PR ST RS RF := by
  intro t ht
  obtain ⟨j, hj, rfl⟩ := S.2.1 t ht
  have := h.1 j hj
  exact ⟨this.1, by omega⟩
/-- the reference's passes: head of pass k, then within it -/
def hp_YR (n : Nat) (L RS RF : Nat → Nat) (k : Nat) (rs rf : Nat → Nat) : Prop :=
  (∀ t, t < n → rf t ≤ RF t) ∧ (∀ t, t < n → L t < k → rs t = RS t ∧ rf t = RF t)
def hp_YQ (n : Nat) (L RS RF : Nat → Nat) (k i : Nat) (rs rf : Nat → Nat) : Prop :=
  hp_YR n L RS RF k rs rf ∧ (∀ t, t < i → L t < k + 1 → rs t = RS t ∧ rf t = RF t)
theorem hp_YR0 {n : Nat} {L RS RF rs rf : Nat → Nat} (h : ∀ t, t < n → rf t = 0) : hp_YR n L RS RF 0 rs rf :=
  ⟨fun t ht => by rw [h t ht]; exact Nat.zero_le _, fun t ht hk => by omega⟩
theorem hp_YQs {P n m : Nat} {W D EU EV EC PR ST FN L RS RF rs rf : Nat → Nat} {k i b : Nat} (G : hp_G P n m W EU EV EC) (Q : hp_Pl P n m W EU EV PR ST FN) (hL : ∀ a c, a < n → ST a < ST c → L a < L c) (R : hp_Rp n m W D EU EV EC PR ST RS RF) (hi : i < n) (h : hp_YQ n L RS RF k i rs rf) (hb : hp_Bs n PR ST rf i b) :
    hp_mx EV i (hp_ar EU EC PR rf (PR i)) b m + W (i * 4 + PR i) + D i ≤ 4800 ∧
    hp_YQ n L RS RF k (i + 1) (hp_u rs i (hp_mx EV i (hp_ar EU EC PR rf (PR i)) b m)) (hp_u rf i (hp_mx EV i (hp_ar EU EC PR rf (PR i)) b m + W (i * 4 + PR i) + D i)) := by
  obtain ⟨⟨h1, h2⟩, h3⟩ := h
  obtain ⟨⟨⟨c, c1, c2⟩, c3⟩, c4⟩ := R i hi
  have hE := G.2.2.2.2.2.1
  obtain ⟨m1, m2⟩ := hp_BsM Q.2.2 hb c1
  have hle : hp_mx EV i (hp_ar EU EC PR rf (PR i)) b m ≤ RS i := by
    rw [c2]
    refine hp_mxM m (m1 h1) (fun e he _ => ?_)
    exact Nat.add_le_add_right (h1 _ (hE e he).1) _
  have heq : L i < k + 1 → hp_mx EV i (hp_ar EU EC PR rf (PR i)) b m = RS i := by
    intro q
    rw [c2]
    refine hp_mxC m (m2 fun x hx hst => (h2 x hx (by have := hL x i hx hst; omega)).2) (fun e he w => ?_)
    have x := hp_PlS G Q he
    rw [w] at x
    have := hL _ _ (hE e he).1 x
    unfold hp_ar
    rw [(h2 _ (hE e he).1 (by omega)).2]
  refine ⟨by omega, ⟨fun t ht => ?_, fun t ht hk => ?_⟩, fun t ht hk => ?_⟩
  · by_cases e : t = i
    · subst e; rw [hp_us]; omega
    · rw [hp_un e]; exact h1 t ht
  · by_cases e : t = i
    · subst e
      rw [hp_us, hp_us, heq (by omega), c3]
      exact ⟨rfl, rfl⟩
    · rw [hp_un e, hp_un e]; exact h2 t ht hk
  · by_cases e : t = i
    · subst e
      rw [hp_us, hp_us, heq hk, c3]
      exact ⟨rfl, rfl⟩
    · rw [hp_un e, hp_un e]; exact h3 t (by omega) hk
theorem hp_YQe {n : Nat} {L RS RF rs rf : Nat → Nat} {k : Nat} (h : hp_YQ n L RS RF k n rs rf) : hp_YR n L RS RF (k + 1) rs rf := ⟨h.1.1, h.2⟩
/-- the reference's search for the task before t, after all below i -/
def hp_Pv (PR ST : Nat → Nat) (t i : Nat) : Option Nat → Prop
  | none => ∀ x, x < i → PR x = PR t → ¬ ST x < ST t
  | some b => b < i ∧ PR b = PR t ∧ ST b < ST t ∧ ∀ x, x < i → PR x = PR t → ST x < ST t → ST x ≤ ST b
theorem hp_Pv0 (PR ST : Nat → Nat) (t : Nat) : hp_Pv PR ST t 0 none := fun x h => by omega
theorem hp_PvK {PR ST : Nat → Nat} {t i : Nat} {o : Option Nat} (h : hp_Pv PR ST t i o) (hk : PR i = PR t → ST i < ST t → ∃ b, o = some b ∧ ST i ≤ ST b) : hp_Pv PR ST t (i + 1) o := by
  cases o with
  | none =>
    intro x hx hp hs
    by_cases e : x = i
    · subst e
      obtain ⟨b, hb, _⟩ := hk hp hs
      cases hb
    · exact h x (by omega) hp hs
  | some b =>
    obtain ⟨h1, h2, h3, h4⟩ := h
    refine ⟨by omega, h2, h3, fun x hx hp hs => ?_⟩
    by_cases e : x = i
    · subst e
      obtain ⟨c, hc, hle⟩ := hk hp hs
      cases hc
      exact hle
    · exact h4 x (by omega) hp hs
theorem hp_PvT {PR ST : Nat → Nat} {t i : Nat} {o : Option Nat} (h : hp_Pv PR ST t i o) (hp : PR i = PR t) (hs : ST i < ST t) (hb : ∀ b, o = some b → ST b < ST i) : hp_Pv PR ST t (i + 1) (some i) := by
  refine ⟨by omega, hp, hs, fun x hx hxp hxs => ?_⟩
  by_cases e : x = i
  · rw [e]; exact Nat.le_refl _
  · cases o with
    | none => exact absurd hxs (h x (by omega) hxp)
    | some b =>
      have := h.2.2.2 x (by omega) hxp hxs
      have := hb b rfl
      omega
theorem hp_PvN {n : Nat} {PR ST rf : Nat → Nat} {t : Nat} (h : hp_Pv PR ST t n none) : hp_Bs n PR ST rf t 0 := Or.inl ⟨rfl, h⟩
theorem hp_PvS {n : Nat} {PR ST rf : Nat → Nat} {t b : Nat} (h : hp_Pv PR ST t n (some b)) : hp_Bs n PR ST rf t (rf b) := Or.inr ⟨b, h, rfl⟩
/-! ===== how many have finished ===== -/
def hp_ct (f : Nat → Nat) (c : Nat) : Nat → Nat
  | 0 => 0
  | t + 1 => if f t ≤ c then hp_ct f c t + 1 else hp_ct f c t
theorem hp_ctB (f : Nat → Nat) (c : Nat) : ∀ t, hp_ct f c t ≤ t
  | 0 => Nat.le_refl _
  | t + 1 => by
    have := hp_ctB f c t
    rw [hp_ct]
    split <;> omega
theorem hp_ctC {f g : Nat → Nat} {c : Nat} : ∀ t, (∀ x, x < t → f x = g x) → hp_ct f c t = hp_ct g c t
  | 0, _ => rfl
  | t + 1, h => by
    rw [hp_ct, hp_ct, hp_ctC t (fun x hx => h x (by omega)), h t (by omega)]
