/-! ===== the reference lays doubled plates ===== -/
theorem PLr.up {kd N i : Nat} {m m' : MI} {v : Int32} (h : PLr kd N i (u2 m 49 i v) m') : PLr kd N i m m' :=
  ⟨h.1, fun q hq => by rw [h.2.1 q hq, u2_ne2 _ _ (Or.inr (by omega))], fun z hz => by rw [h.2.2 z hz, u2_o _ _ hz]⟩
theorem pl0_sg {i j N : Nat} (hi : i < 31) : sgI (pcN 32 ((i + 1) &&& (j + 1)) % 2 == 1) = sgI (plB 0 N i j) := by
  have h1 : (i + 1) &&& (j + 1) < 2 ^ 10 := Nat.lt_of_le_of_lt Nat.and_le_left (by omega)
  have h2 := pcN_up (m := 22) h1
  rw [show (10 + 22 : Nat) = 32 from rfl] at h2
  have h3 : plB 0 N i j = (pcN 10 ((i + 1) &&& (j + 1)) % 2 == 1) := rfl
  rw [h2, h3]
theorem sgI_t : ¬ (0 : Int32) ≤ sgI true := by decide
theorem sgI_f : (0 : Int32) ≤ sgI false := by decide
section
variable {nb db b : Nat} {by_ rs : RX} {c : Nat} {mi mj : MI} {ml mk : ML} {x y z : Int32}
theorem R_laysDoubled {K : Nat} (hK : 2 ≤ K ∧ K ≤ 5) (hm0 : mj 48 5 = nI (2 ^ K - 1)) : ∃ m', Ret m_r_laysDoubled [vR 19 0 48] none c (MRc nb db by_ rs) mj mk m' mk ∧ PLr 0 (2 ^ K - 1) 0 mj m' := by
  have hpow : ∀ k, k < K → 2 ^ k ≤ 2 ^ K - 1 := fun k hk => by
    have := Nat.pow_lt_pow_right (show 1 < 2 by decide) hk
    omega
  have hK32 : 2 ^ K ≤ 2 ^ 5 := Nat.pow_le_pow_right (by decide) hK.2
  have hKp := Nat.two_pow_pos K
  have hN : 3 ≤ 2 ^ K - 1 ∧ 2 ^ K - 1 ≤ 31 := by
    have : 2 ^ 2 ≤ 2 ^ K := Nat.pow_le_pow_right (by decide) hK.1
    omega
  generalize eN : 2 ^ K - 1 = N at hm0 hpow hN
  have out : ∀ n i, N - i = n → i ≤ N → ∀ (l2 : Int32) (m : MI), l2 = nI i → m 48 5 = nI N → ∃ m', Go m_r_laysDoubled 20 [some (vR 19 0 48), some (vI (nI K)), some (vI l2), none] [] none c (MRc nb db by_ rs) m mk m' mk ∧ PLr 0 N i m m' := by
    intro n
    induction n with
    | zero =>
      intro i hn hi l2 m hl hm
      have e : i = N := by omega
      rw [e] at hl ⊢
      exact ⟨m, g_r_laysDoubled_20 ⟨fun _ => ⟨rfl, rfl, rfl⟩, fun z => absurd (by rw [hm, hl, nI_leI (by omega) (by omega)]; exact Nat.le_refl _) z⟩, PLr.rf⟩
    | succ n ih =>
      intro i hn hi l2 m hl hm
      have cl : l2.toNatClampNeg = i := cln hl (by omega)
      have inn : ∀ q j, N - j = q → j ≤ N → ∀ (l3 : Int32) (m : MI), l3 = nI j → m 48 5 = nI N → m 49 i = nI (bitsOf (plB 0 N i) j) → ∃ m', Go m_r_laysDoubled 37 [some (vR 19 0 48), some (vI (nI K)), some (vI l2), some (vI l3)] [] none c (MRc nb db by_ rs) m mk m' mk ∧ PLr 0 N i m m' := by
        intro q
        induction q with
        | zero =>
          intro j hq hj l3 m h3 hm hv
          have e : j = N := by omega
          rw [e] at h3 hv
          obtain ⟨m', k1, k2⟩ := ih (i + 1) (by omega) (by omega) (l2 + nI 1) m (inc hl) hm
          exact ⟨m', g_r_laysDoubled_37 ⟨fun _ => k1, fun z => absurd (by rw [hm, h3, nI_leI (by omega) (by omega)]; exact Nat.le_refl _) z⟩, k2.st hv (fun _ _ => rfl) (fun _ _ => rfl)⟩
        | succ q ihq =>
          intro j hq hj l3 m h3 hm hv
          have nle : ¬ m 48 5 ≤ l3 := by rw [hm, h3, nI_leI (by omega) (by omega)]; omega
          have S := R_signAt (nb := nb) (db := db) (by_ := by_) (rs := rs) (c := c) (mj := m) (mk := mk) (show K ≤ 30 by omega) (rfl : nI K = nI K) (inc hl) (inc h3) (show i + 1 < 2 ^ K by omega) (show j + 1 < 2 ^ K by omega)
          rw [pl0_sg (N := N) (by omega)] at S
          by_cases hs : plB 0 N i j = true
          · rw [hs] at S
            have bs : m 49 i ||| (nI 1 <<< (l3 &&& 31)) = nI (bitsOf (plB 0 N i) (j + 1)) := bits_step (by omega) hv (by rw [if_pos hs]) h3
            obtain ⟨m', k1, k2⟩ := ihq (j + 1) (by omega) (by omega) (l3 + nI 1) (u2 m 49 i (m 49 i ||| (nI 1 <<< (l3 &&& 31)))) (inc h3) (by rw [u2_o _ _ (by decide)]; exact hm) (by rw [u2_s]; exact bs)
            refine ⟨m', g_r_laysDoubled_37 ⟨fun z => absurd z nle, fun _ => ⟨_, S, fun z => absurd z sgI_t, fun _ => ⟨ixn hl (by omega) (by decide), ixn hl (by omega) (by decide), ?_⟩⟩⟩, k2.up⟩
            rw [cl]; exact k1
          · have hs' : plB 0 N i j = false := by simpa using hs
            rw [hs'] at S
            obtain ⟨m', k1, k2⟩ := ihq (j + 1) (by omega) (by omega) (l3 + nI 1) m (inc h3) hm (by
              rw [hv]
              show _ = nI (bitsOf (plB 0 N i) j + (if plB 0 N i j = true then 2 ^ j else 0))
              rw [if_neg hs, Nat.add_zero])
            exact ⟨m', g_r_laysDoubled_37 ⟨fun z => absurd z nle, fun _ => ⟨_, S, fun _ => k1, fun z => absurd sgI_f z⟩⟩, k2⟩
      obtain ⟨m', k1, k2⟩ := inn (N - 0) 0 rfl (Nat.zero_le _) (nI 0) (u2 m 49 i (nI 0)) rfl (by rw [u2_o _ _ (by decide)]; exact hm) (u2_s _ _ _ _)
      refine ⟨m', g_r_laysDoubled_20 ⟨fun z => absurd z (by rw [hm, hl, nI_leI (by omega) (by omega)]; omega), fun _ => ⟨ixn hl (by omega) (by decide), ?_⟩⟩, k2.up⟩
      rw [cl]; exact k1
  have fnd : ∀ n k, K - k = n → k ≤ K → ∀ l1 : Int32, l1 = nI k → ∃ m', Go m_r_laysDoubled 2 [some (vR 19 0 48), some (vI l1), none, none] [] none c (MRc nb db by_ rs) mj mk m' mk ∧ PLr 0 N 0 mj m' := by
    intro n
    induction n with
    | zero =>
      intro k hn hk l1 hl
      have e : k = K := by omega
      rw [e] at hl
      obtain ⟨m', k1, k2⟩ := out (N - 0) 0 rfl (Nat.zero_le _) (nI 0) mj rfl hm0
      have lt : mj 48 5 < nI 1 <<< (l1 &&& 31) := by rw [hm0, shl_n rfl hl (by omega) (by omega), nI_ltI (by omega) (by omega)]; omega
      rw [← hl] at k1
      exact ⟨m', g_r_laysDoubled_2 ⟨fun _ => k1, fun z => absurd lt z⟩, k2⟩
    | succ n ih =>
      intro k hn hk l1 hl
      have hp := hpow k (by omega)
      obtain ⟨m', k1, k2⟩ := ih (k + 1) (by omega) (by omega) (l1 + nI 1) (inc hl)
      have nlt : ¬ mj 48 5 < nI 1 <<< (l1 &&& 31) := by rw [hm0, shl_n rfl hl (by omega) (by omega), nI_ltI (by omega) (by omega)]; omega
      exact ⟨m', g_r_laysDoubled_2 ⟨fun z => absurd z nlt, fun _ => k1⟩, k2⟩
  obtain ⟨m', k1, k2⟩ := fnd (K - 0) 0 rfl (Nat.zero_le _) (nI 0) rfl
  exact ⟨m', g_r_laysDoubled_0 k1, k2⟩
end
