/-! ===== the reference lays its plates ===== -/
theorem sq_turn : ∀ N ∈ [3, 7, 11, 19, 23, 31], plN 1 N 0 = sqS N N ∧ ∀ i, i < N → (plN 1 N i / 2 ||| plN 1 N i % 2 * 2 ^ (N - 1)) = plN 1 N (i + 1) := by decide +kernel
theorem isPr_mem {N : Nat} (h : isPr N) : N ∈ [3, 7, 11, 19, 23, 31] := by
  rcases h with h | h | h | h | h | h <;> subst h <;> decide
/-- plates of the reference, from i on -/
def PLr (kd N i : Nat) (m m' : MI) : Prop := (∀ q, i ≤ q → q < N → m' 49 q = nI (plN kd N q)) ∧ (∀ q, q < i → m' 49 q = m 49 q) ∧ ∀ z, z ≠ 49 → m' z = m z
theorem PLr.rf {kd N : Nat} {m : MI} : PLr kd N N m m := ⟨fun q h1 h2 => absurd h2 (by omega), fun _ _ => rfl, fun _ _ => rfl⟩
theorem PLr.st {kd N i : Nat} {m m1 m' : MI} (h1 : m1 49 i = nI (plN kd N i)) (h2 : ∀ q, q ≠ i → m1 49 q = m 49 q) (h3 : ∀ z, z ≠ 49 → m1 z = m z) (h : PLr kd N (i + 1) m1 m') : PLr kd N i m m' := by
  obtain ⟨g1, g2, g3⟩ := h
  refine ⟨fun q a1 a2 => ?_, fun q a1 => ?_, fun z hz => by rw [g3 z hz, h3 z hz]⟩
  · by_cases e : q = i
    · rw [e, g2 i (by omega), h1]
    · exact g1 q (by omega) a2
  · rw [g2 q (by omega), h2 q (by omega)]
section
variable {nb db b : Nat} {by_ rs : RX} {c : Nat} {mi mj : MI} {ml mk : ML} {x y z : Int32}
theorem R_laysSquares {N : Nat} (hN : isPr N) (hm0 : mj 48 5 = nI N) : ∃ m', Ret m_r_laysSquares [vR 19 0 48] none c (MRc nb db by_ rs) mj mk m' mk ∧ PLr 1 N 0 mj m' := by
  obtain ⟨p0, pt⟩ := sq_turn N (isPr_mem hN)
  have hb31 : 3 ≤ N ∧ N ≤ 31 := by unfold isPr at hN; omega
  have nz : ∀ m : MI, m 48 5 = nI N → ¬ m 48 5 = 0 := fun m hm => nN0 hb31.1 hb31.2 hm
  have out : ∀ n i, N - i = n → i ≤ N → ∀ (l1 l2 : Int32) (m : MI), l1 = nI (plN 1 N i) → l2 = nI i → m 48 5 = nI N → ∃ m', Go m_r_laysSquares 33 [some (vR 19 0 48), some (vI l1), some (vI l2), none] [] none c (MRc nb db by_ rs) m mk m' mk ∧ PLr 1 N i m m' := by
    intro n
    induction n with
    | zero =>
      intro i hn hi l1 l2 m h1 hl hm
      have e : i = N := by omega
      rw [e] at hl ⊢
      exact ⟨m, g_r_laysSquares_33 ⟨fun _ => ⟨rfl, rfl, rfl⟩, fun z => absurd (by rw [hm, hl, nI_leI (by omega) (by omega)]; exact Nat.le_refl _) z⟩, PLr.rf⟩
    | succ n ih =>
      intro i hn hi l1 l2 m h1 hl hm
      have hX := pl_lt 1 N i hb31.2
      have hp : 2 ^ (N - 1) ≤ 2 ^ 30 := Nat.pow_le_pow_right (by decide) (by omega)
      have h2 : plN 1 N i % 2 < 2 := Nat.mod_lt _ (by decide)
      have hmul : plN 1 N i % 2 * 2 ^ (N - 1) ≤ 1 * 2 ^ 30 := Nat.mul_le_mul (by omega) hp
      have e1 : l1 >>> (nI 1 &&& 31) = nI (plN 1 N i / 2) := by
        rw [h1, pk_shrN hX _ 1 (by decide), Nat.pow_one]
      have e2 : l1 &&& nI 1 = nI (plN 1 N i % 2) := by rw [h1, nI_and, Nat.and_one_is_mod]
      have e3 : m 48 5 - nI 1 = nI (N - 1) := by rw [hm, nI_sub (by omega)]
      obtain ⟨m', k1, k2⟩ := ih (i + 1) (by omega) (by omega) ((l1 >>> (nI 1 &&& 31)) ||| ((l1 &&& nI 1) <<< ((m 48 5 - nI 1) &&& 31))) (l2 + nI 1) (u2 m 49 i l1) (by
        rw [shl_n e2 e3 (by omega) (by omega), e1, nI_or, pt i (by omega)]) (inc hl) (by rw [u2_o _ _ (by decide)]; exact hm)
      refine ⟨m', g_r_laysSquares_33 ⟨fun z => absurd z (by rw [hm, hl, nI_leI (by omega) (by omega)]; omega), fun _ => ⟨ixn hl (by omega) (by decide), ?_⟩⟩, k2.st (by rw [u2_s, h1]) (fun q hq => u2_ne2 _ _ (Or.inr hq)) (fun z hz => u2_o _ _ hz)⟩
      rw [cln hl (by omega)]; exact k1
  have root : ∀ n r, N - r = n → 1 ≤ r → r ≤ N → ∀ (l1 l2 : Int32), l1 = nI (sqS N r) → l2 = nI r → ∃ m', Go m_r_laysSquares 4 [some (vR 19 0 48), some (vI l1), some (vI l2), none] [] none c (MRc nb db by_ rs) mj mk m' mk ∧ PLr 1 N 0 mj m' := by
    intro n
    induction n with
    | zero =>
      intro r hn h1 hi l1 l2 h2 hl
      have e : r = N := by omega
      rw [e] at hl h2
      obtain ⟨m', k1, k2⟩ := out (N - 0) 0 rfl (Nat.zero_le _) l1 (nI 0) mj (by rw [h2, p0]) rfl hm0
      exact ⟨m', g_r_laysSquares_4 ⟨fun _ => k1, fun z => absurd (by rw [hm0, hl, nI_leI (by omega) (by omega)]; exact Nat.le_refl _) z⟩, k2⟩
    | succ n ih =>
      intro r hn h1 hi l1 l2 h2 hl
      have hm' := Nat.mod_lt (r * r) (show 0 < N by omega)
      have hrr : r * r ≤ 31 * 31 := Nat.mul_le_mul (by omega) (by omega)
      have er : rmI (l2 * l2) (mj 48 5) = nI (r * r % N) := by rw [hl, hm0, pk_mul]; exact pk_rem (by omega) (by omega) (by omega)
      obtain ⟨m', k1, k2⟩ := ih (r + 1) (by omega) (by omega) (by omega) (l1 ||| (nI 1 <<< (rmI (l2 * l2) (mj 48 5) &&& 31))) (l2 + nI 1) (by
        rw [or_n h2 er (by omega)]
        show _ = nI (if r = 0 then 1 else sqS N r ||| 2 ^ (r * r % N))
        rw [if_neg (by omega)]) (inc hl)
      exact ⟨m', g_r_laysSquares_4 ⟨fun z => absurd z (by rw [hm0, hl, nI_leI (by omega) (by omega)]; omega), fun _ => ⟨nz mj hm0, k1⟩⟩, k2⟩
  obtain ⟨m', k1, k2⟩ := root (N - 1) 1 rfl (Nat.le_refl _) (by omega) (nI 1) (nI 1) rfl rfl
  exact ⟨m', g_r_laysSquares_0 k1, k2⟩
end
