/-! ===== the class makes its plates ===== -/
theorem bits_step {f : Nat → Bool} {j : Nat} (hj : j < 31) {x y l : Int32} (hx : x = nI (bitsOf f j)) (hy : y = nI (if f j = true then 1 else 0)) (hl : l = nI j) : x ||| (y <<< (l &&& 31)) = nI (bitsOf f (j + 1)) := by
  have hp := p2_lt (show j < 31 by omega)
  have hb := bitsOf_lt f j
  by_cases h : f j = true
  · rw [if_pos h] at hy
    rw [hy, or_n hx hl hj]
    congr 1
    show bitsOf f j ||| 2 ^ j = bitsOf f j + (if f j = true then 2 ^ j else 0)
    rw [if_pos h, Nat.or_comm]
    have := Nat.two_pow_add_eq_or_of_lt hb 1
    rw [Nat.mul_one] at this
    rw [← this]; omega
  · rw [if_neg h] at hy
    rw [shl_n hy hl (by omega) (by omega), hx, Nat.zero_mul, nI_or, Nat.or_zero]
    congr 1
    show bitsOf f j = bitsOf f j + (if f j = true then 2 ^ j else 0)
    rw [if_neg h]; omega
/-- plates are laid from i on -/
def PLd (kd N b i : Nat) (m m' : MI) : Prop := (∀ q, i ≤ q → q < N → m' (b + 1) q = nI (plN kd N q)) ∧ (∀ q, q < i → m' (b + 1) q = m (b + 1) q) ∧ ∀ z, z ≠ b + 1 → m' z = m z
theorem PLd.rf {kd N b : Nat} {m : MI} : PLd kd N b N m m := ⟨fun q h1 h2 => absurd h2 (by omega), fun _ _ => rfl, fun _ _ => rfl⟩
theorem PLd.st {kd N b i : Nat} {m m' : MI} (h : PLd kd N b (i + 1) (u2 m (b + 1) i (nI (plN kd N i))) m') : PLd kd N b i m m' := by
  obtain ⟨h1, h2, h3⟩ := h
  refine ⟨fun q a1 a2 => ?_, fun q a1 => ?_, fun z hz => by rw [h3 z hz, u2_o _ _ hz]⟩
  · by_cases e : q = i
    · rw [e, h2 i (by omega), u2_s]
    · exact h1 q (by omega) a2
  · rw [h2 q (by omega), u2_ne2 _ _ (Or.inr (by omega))]
section
variable {nb db b : Nat} {by_ rs : RX} {c : Nat} {mi mj : MI} {ml mk : ML} {x y z : Int32}
theorem pl0_bit {i j N : Nat} (hi : i < 31) {r : Int32} (hr : r = nI (pcN (10 + 22) ((i + 1) &&& (j + 1)))) : r &&& nI 1 = nI (if plB 0 N i j = true then 1 else 0) := by
  have h1 : (i + 1) &&& (j + 1) < 2 ^ 10 := Nat.lt_of_le_of_lt Nat.and_le_left (by omega)
  have h2 := pcN_up (m := 22) h1
  have h3 : plB 0 N i j = (pcN 10 ((i + 1) &&& (j + 1)) % 2 == 1) := rfl
  rw [hr, h2, nI_and, h3]
  generalize pcN 10 ((i + 1) &&& (j + 1)) = u
  rw [Nat.and_one_is_mod]
  rcases Nat.mod_two_eq_zero_or_one u with h | h
  · rw [h]; rfl
  · rw [h]; rfl
theorem R_mkDoubled (hbb : b = 43 ∨ b = 5) {k : Nat} (hk : 2 ≤ k ∧ k ≤ 5) (hx : x = nI k) : ∃ m', Ret m_bn_makeDoubled [vR 13 0 b, vI x] none c (MRc nb db by_ rs) mi ml m' ml ∧ PLd 0 (2 ^ k - 1) b 0 (u2 (u2 mi b 1 (nI 0)) b 0 (nI (2 ^ k - 1))) m' := by
  have hN : 3 ≤ 2 ^ k - 1 ∧ 2 ^ k - 1 ≤ 31 := by
    have : k = 2 ∨ k = 3 ∨ k = 4 ∨ k = 5 := by omega
    rcases this with h | h | h | h <;> subst h <;> decide
  have ec : (nI 1 <<< (x &&& 31)) - nI 1 = nI (2 ^ k - 1) := by rw [shl_n rfl hx (by omega) (by omega), Nat.one_mul, nI_sub (by omega)]
  generalize 2 ^ k - 1 = N at hN ec
  have out : ∀ n i, N - i = n → i ≤ N → ∀ (l2 : Int32) (m : MI), l2 = nI i → m b 0 = nI N → ∃ m', Go m_bn_makeDoubled 21 [some (vR 13 0 b), some (vI x), some (vI l2), none, none] [] none c (MRc nb db by_ rs) m ml m' ml ∧ PLd 0 N b i m m' := by
    intro n
    induction n with
    | zero =>
      intro i hn hi l2 m hl hm
      have e : i = N := by omega
      rw [e] at hl ⊢
      exact ⟨m, g_bn_makeDoubled_21 hbb ⟨fun _ => ⟨rfl, rfl, rfl⟩, fun z => absurd (by rw [hm, hl, nI_leI (by omega) (by omega)]; exact Nat.le_refl _) z⟩, PLd.rf⟩
    | succ n ih =>
      intro i hn hi l2 m hl hm
      have hiN : i < N := by omega
      obtain ⟨m', k1, k2⟩ := ih (i + 1) (by omega) (by omega) (l2 + nI 1) (u2 m (b + 1) i (nI (plN 0 N i))) (inc hl) (by rw [u2_o _ _ (by omega)]; exact hm)
      refine ⟨m', g_bn_makeDoubled_21 hbb ⟨fun z => absurd z (by rw [hm, hl, nI_leI (by omega) (by omega)]; omega), fun _ => ?_⟩, k2.st⟩
      have inn : ∀ j, j ≤ N → ∀ l3 l4 : Int32, l3 = nI (bitsOf (plB 0 N i) j) → l4 = nI j → Go m_bn_makeDoubled 34 [some (vR 13 0 b), some (vI x), some (vI l2), some (vI l3), some (vI l4)] [] none c (MRc nb db by_ rs) m ml m' ml := by
        refine upto (fun l3 l4 h3 h4 => ?_) (fun j hj ihj l3 l4 h3 h4 => ?_)
        · refine g_bn_makeDoubled_34 hbb ⟨fun _ => ⟨ixn hl (by omega) (by decide), ?_⟩, fun z => absurd (by rw [hm, h4, nI_leI (by omega) (by omega)]; exact Nat.le_refl _) z⟩
          rw [cln hl (by omega), h3]; exact k1
        · have ea : (l2 + nI 1) &&& (l4 + nI 1) = nI ((i + 1) &&& (j + 1)) := by rw [inc hl, inc h4, nI_and]
          have hle : (i + 1) &&& (j + 1) < 2 ^ 32 := Nat.lt_of_le_of_lt Nat.and_le_left (by omega)
          refine g_bn_makeDoubled_34 hbb ⟨fun z => absurd z (by rw [hm, h4, nI_leI (by omega) (by omega)]; omega), fun _ => ⟨_, R_bitCount hle ea, ihj _ _ ?_ (inc h4)⟩⟩
          exact bits_step (by omega) h3 (pl0_bit (by omega) rfl) h4
      exact inn 0 (Nat.zero_le _) _ _ rfl rfl
  obtain ⟨m', k1, k2⟩ := out (N - 0) 0 rfl (Nat.zero_le _) (nI 0) (u2 (u2 mi b 1 (nI 0)) b 0 (nI N)) rfl (u2_s _ _ _ _)
  refine ⟨m', g_bn_makeDoubled_0 hbb ?_, k2⟩
  rw [ec, if_neg (by rw [nI_ltI (by decide) (by omega)]; omega)]
  exact k1
/-- rests of squares, of roots below r -/
def sqS (N : Nat) : Nat → Nat
  | 0 => 1
  | r + 1 => if r = 0 then 1 else sqS N r ||| 2 ^ (r * r % N)
theorem sqS_ok : ∀ N, (N = 3 ∨ N = 7 ∨ N = 11 ∨ N = 19 ∨ N = 23 ∨ N = 31) → ∀ q, q < N → bt (sqS N N) q = if (q == 0 || (List.range N).any (fun k => 0 < k && k * k % N == q)) = true then 1 else 0 := by
  intro N h
  rcases h with h | h | h | h | h | h <;> subst h <;> decide
theorem sqS_lt {N : Nat} (h0 : 0 < N) (h31 : N ≤ 31) : ∀ r, sqS N r < 2 ^ 31
  | 0 => show 1 < 2 ^ 31 by decide
  | r + 1 => by
    show (if r = 0 then 1 else sqS N r ||| 2 ^ (r * r % N)) < 2 ^ 31
    split
    · decide
    · have := Nat.mod_lt (r * r) h0
      exact or_lt31 (sqS_lt h0 h31 r) (by omega)
theorem R_mkSquares (hbb : b = 43 ∨ b = 5) {N : Nat} (hN : N = 3 ∨ N = 7 ∨ N = 11 ∨ N = 19 ∨ N = 23 ∨ N = 31) (hx : x = nI N) : ∃ m', Ret m_bn_makeSquares [vR 13 0 b, vI x] none c (MRc nb db by_ rs) mi ml m' ml ∧ PLd 1 N b 0 (u2 (u2 mi b 1 (nI 1)) b 0 (nI N)) m' := by
  have hb31 : 3 ≤ N ∧ N ≤ 31 := by omega
  have hS := sqS_lt (show 0 < N by omega) hb31.2 N
  have nz : ∀ m : MI, m b 0 = nI N → ¬ m b 0 = 0 := fun m hm => nN0 hb31.1 hb31.2 hm
  have out : ∀ n i, N - i = n → i ≤ N → ∀ (l2 l3 : Int32) (m : MI), l2 = nI (sqS N N) → l3 = nI i → m b 0 = nI N → ∃ m', Go m_bn_makeSquares 48 [some (vR 13 0 b), some (vI x), some (vI l2), some (vI l3), none, none] [] none c (MRc nb db by_ rs) m ml m' ml ∧ PLd 1 N b i m m' := by
    intro n
    induction n with
    | zero =>
      intro i hn hi l2 l3 m h2 hl hm
      have e : i = N := by omega
      rw [e] at hl ⊢
      exact ⟨m, g_bn_makeSquares_48 hbb ⟨fun _ => ⟨rfl, rfl, rfl⟩, fun z => absurd (by rw [hm, hl, nI_leI (by omega) (by omega)]; exact Nat.le_refl _) z⟩, PLd.rf⟩
    | succ n ih =>
      intro i hn hi l2 l3 m h2 hl hm
      have hiN : i < N := by omega
      obtain ⟨m', k1, k2⟩ := ih (i + 1) (by omega) (by omega) l2 (l3 + nI 1) (u2 m (b + 1) i (nI (plN 1 N i))) h2 (inc hl) (by rw [u2_o _ _ (by omega)]; exact hm)
      refine ⟨m', g_bn_makeSquares_48 hbb ⟨fun z => absurd z (by rw [hm, hl, nI_leI (by omega) (by omega)]; omega), fun _ => ?_⟩, k2.st⟩
      have inn : ∀ j, j ≤ N → ∀ l4 l5 : Int32, l4 = nI (bitsOf (plB 1 N i) j) → l5 = nI j → Go m_bn_makeSquares 62 [some (vR 13 0 b), some (vI x), some (vI l2), some (vI l3), some (vI l4), some (vI l5)] [] none c (MRc nb db by_ rs) m ml m' ml := by
        refine upto (fun l4 l5 h4 h5 => ?_) (fun j hj ihj l4 l5 h4 h5 => ?_)
        · refine g_bn_makeSquares_62 hbb ⟨fun _ => ⟨ixn hl (by omega) (by decide), ?_⟩, fun z => absurd (by rw [hm, h5, nI_leI (by omega) (by omega)]; exact Nat.le_refl _) z⟩
          rw [cln hl (by omega), h4]; exact k1
        · have ml' := Nat.mod_lt (i + j) (show 0 < N by omega)
          have er : rmI (l3 + l5) (m b 0) = nI ((i + j) % N) := by rw [hl, h5, hm, nI_add]; exact pk_rem (by omega) (by omega) (by omega)
          refine g_bn_makeSquares_62 hbb ⟨fun z => absurd z (by rw [hm, h5, nI_leI (by omega) (by omega)]; omega), fun _ => ⟨nz m hm, ihj _ _ ?_ (inc h5)⟩⟩
          refine bits_step (by omega) h4 ?_ h5
          rw [bit_i h2 er hS (by omega), sqS_ok N hN _ ml']
          rfl
      exact inn 0 (Nat.zero_le _) _ _ rfl rfl
  have root : ∀ n r, N - r = n → 1 ≤ r → r ≤ N → ∀ (l2 l3 : Int32) (m : MI), l2 = nI (sqS N r) → l3 = nI r → m b 0 = nI N → ∃ m', Go m_bn_makeSquares 19 [some (vR 13 0 b), some (vI x), some (vI l2), some (vI l3), none, none] [] none c (MRc nb db by_ rs) m ml m' ml ∧ PLd 1 N b 0 m m' := by
    intro n
    induction n with
    | zero =>
      intro r hn h1 hi l2 l3 m h2 hl hm
      have e : r = N := by omega
      rw [e] at hl h2
      obtain ⟨m', k1, k2⟩ := out (N - 0) 0 rfl (Nat.zero_le _) l2 (nI 0) m h2 rfl hm
      exact ⟨m', g_bn_makeSquares_19 hbb ⟨fun _ => k1, fun z => absurd (by rw [hm, hl, nI_leI (by omega) (by omega)]; exact Nat.le_refl _) z⟩, k2⟩
    | succ n ih =>
      intro r hn h1 hi l2 l3 m h2 hl hm
      have hm' := Nat.mod_lt (r * r) (show 0 < N by omega)
      have hrr : r * r ≤ 31 * 31 := Nat.mul_le_mul (by omega) (by omega)
      have er : rmI (l3 * l3) (m b 0) = nI (r * r % N) := by rw [hl, hm, pk_mul]; exact pk_rem (by omega) (by omega) (by omega)
      obtain ⟨m', k1, k2⟩ := ih (r + 1) (by omega) (by omega) (by omega) (l2 ||| (nI 1 <<< (rmI (l3 * l3) (m b 0) &&& 31))) (l3 + nI 1) m (by
        rw [or_n h2 er (by omega)]
        show _ = nI (if r = 0 then 1 else sqS N r ||| 2 ^ (r * r % N))
        rw [if_neg (by omega)]) (inc hl) hm
      exact ⟨m', g_bn_makeSquares_19 hbb ⟨fun z => absurd z (by rw [hm, hl, nI_leI (by omega) (by omega)]; omega), fun _ => ⟨nz m hm, k1⟩⟩, k2⟩
  obtain ⟨m', k1, k2⟩ := root (N - 1) 1 rfl (Nat.le_refl _) (by omega) (nI 1) (nI 1) (u2 (u2 mi b 1 (nI 1)) b 0 (nI N)) rfl rfl (u2_s _ _ _ _)
  refine ⟨m', g_bn_makeSquares_0 hbb ?_, k2⟩
  have e31 : (if nI 31 < x then nI 31 else x) = nI N := by rw [hx, if_neg (by rw [nI_ltI (by decide) (by omega)]; omega)]
  rw [e31]
  exact k1
end
