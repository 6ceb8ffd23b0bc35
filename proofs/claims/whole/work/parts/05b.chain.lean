/-! ===== the plan as a function ===== -/
noncomputable def hp_es (m : Nat) (W EU EV EC a PR ST FN : Nat → Nat) (i p : Nat) : Nat :=
  Classical.epsilon (hp_Le a PR ST FN i p (W (a i * 4 + p)) (hp_mx EV (a i) (hp_ar EU EC PR FN p) 0 m))
noncomputable def hp_fs (m : Nat) (W EU EV EC a PR ST FN : Nat → Nat) (i p : Nat) : Nat := hp_es m W EU EV EC a PR ST FN i p + W (a i * 4 + p)
theorem hp_esL {P m : Nat} {W EU EV EC a PR ST FN : Nat → Nat} {i mk : Nat} (h : hp_PK P m W EU EV a i PR ST FN mk) (p : Nat) :
    hp_Le a PR ST FN i p (W (a i * 4 + p)) (hp_mx EV (a i) (hp_ar EU EC PR FN p) 0 m) (hp_es m W EU EV EC a PR ST FN i p) := by
  obtain ⟨s, hs, _⟩ := hp_LeE (a := a) (PR := PR) (ST := ST) (FN := FN) (i := i) (p := p) (d := W (a i * 4 + p)) (ready := hp_mx EV (a i) (hp_ar EU EC PR FN p) 0 m) (B := 200 * i) (fun j hj => by have := (h.1 j hj).2.2; omega)
  exact Classical.epsilon_spec ⟨s, hs⟩
theorem hp_esB {P m n : Nat} {W EU EV EC a PR ST FN : Nat → Nat} {i mk : Nat} (hE : ∀ e, e < m → EC e ≤ 100) (hB : hp_Bf n m EU EV a) (hi : i < n) (h : hp_PK P m W EU EV a i PR ST FN mk) (p : Nat) :
    hp_es m W EU EV EC a PR ST FN i p ≤ 200 * i + 100 :=
  hp_LeB (B := 200 * i + 100) (fun j hj => by have := (h.1 j hj).2.2; omega) (hp_PKr hE hB hi h) (hp_esL h p)
/-- the best processor for position i, its start, its finish -/
noncomputable def hp_zb (P m : Nat) (W EU EV EC a PR ST FN : Nat → Nat) (i : Nat) : Nat := hp_bp (hp_fs m W EU EV EC a PR ST FN i) P
noncomputable def hp_nx (P m : Nat) (W EU EV EC a : Nat → Nat) (i : Nat) (z : (Nat → Nat) × (Nat → Nat) × (Nat → Nat) × Nat) : (Nat → Nat) × (Nat → Nat) × (Nat → Nat) × Nat :=
  (hp_u z.1 (a i) (hp_zb P m W EU EV EC a z.1 z.2.1 z.2.2.1 i),
   hp_u z.2.1 (a i) (hp_es m W EU EV EC a z.1 z.2.1 z.2.2.1 i (hp_zb P m W EU EV EC a z.1 z.2.1 z.2.2.1 i)),
   hp_u z.2.2.1 (a i) (hp_fs m W EU EV EC a z.1 z.2.1 z.2.2.1 i (hp_zb P m W EU EV EC a z.1 z.2.1 z.2.2.1 i)),
   if z.2.2.2 < hp_fs m W EU EV EC a z.1 z.2.1 z.2.2.1 i (hp_zb P m W EU EV EC a z.1 z.2.1 z.2.2.1 i) then hp_fs m W EU EV EC a z.1 z.2.1 z.2.2.1 i (hp_zb P m W EU EV EC a z.1 z.2.1 z.2.2.1 i) else z.2.2.2)
noncomputable def hp_Z (P m : Nat) (W EU EV EC a PR ST FN : Nat → Nat) : Nat → (Nat → Nat) × (Nat → Nat) × (Nat → Nat) × Nat
  | 0 => (PR, ST, FN, 0)
  | i + 1 => hp_nx P m W EU EV EC a i (hp_Z P m W EU EV EC a PR ST FN i)
theorem hp_nxK {P n m : Nat} {W EU EV EC a GG PR ST FN : Nat → Nat} {i mk : Nat} (G : hp_G P n m W EU EV EC) (S : hp_So n GG a) (hB : hp_Bf n m EU EV a) (hi : i < n) (h : hp_PK P m W EU EV a i PR ST FN mk) :
    hp_zb P m W EU EV EC a PR ST FN i < P ∧ hp_fs m W EU EV EC a PR ST FN i (hp_zb P m W EU EV EC a PR ST FN i) ≤ 200 * (i + 1) ∧
    hp_PK P m W EU EV a (i + 1) (hp_nx P m W EU EV EC a i (PR, ST, FN, mk)).1 (hp_nx P m W EU EV EC a i (PR, ST, FN, mk)).2.1 (hp_nx P m W EU EV EC a i (PR, ST, FN, mk)).2.2.1 (hp_nx P m W EU EV EC a i (PR, ST, FN, mk)).2.2.2 := by
  obtain ⟨hP1, hP, hn, hm, hW, hE, hT⟩ := G
  have hb : hp_zb P m W EU EV EC a PR ST FN i < P := hp_bpL _ P (by omega)
  have hw := (hW (a i) _ (S.1 i hi) hb).2
  obtain ⟨q1, q2⟩ := hp_PKs (EC := EC) S (fun e he => (hE e he).2.2) hB hi h hb hw (hp_esL h _)
  refine ⟨hb, q1, q2 _ ?_⟩
  have h4 := h.2.2.2
  have q1' : hp_fs m W EU EV EC a PR ST FN i (hp_zb P m W EU EV EC a PR ST FN i) ≤ 200 * (i + 1) := q1
  show (if mk < hp_fs m W EU EV EC a PR ST FN i (hp_zb P m W EU EV EC a PR ST FN i) then hp_fs m W EU EV EC a PR ST FN i (hp_zb P m W EU EV EC a PR ST FN i) else mk) ≤ 200 * (i + 1)
  split <;> omega
theorem hp_ZK {P n m : Nat} {W EU EV EC a GG PR ST FN : Nat → Nat} (G : hp_G P n m W EU EV EC) (S : hp_So n GG a) (hB : hp_Bf n m EU EV a) : ∀ i, i ≤ n →
    hp_PK P m W EU EV a i (hp_Z P m W EU EV EC a PR ST FN i).1 (hp_Z P m W EU EV EC a PR ST FN i).2.1 (hp_Z P m W EU EV EC a PR ST FN i).2.2.1 (hp_Z P m W EU EV EC a PR ST FN i).2.2.2
  | 0, _ => hp_PK0
  | i + 1, h => (hp_nxK G S hB (by omega) (hp_ZK G S hB i (by omega))).2.2
