/-! ===== both begin a text anew ===== -/
def zrN (m : MI) (A n : Nat) : MI := fun z q => if z = A ∧ q < n then nI 0 else m z q
theorem zrN_0 (m : MI) (A : Nat) : zrN m A 0 = m := by
  funext z q
  unfold zrN
  rw [if_neg (by omega)]
theorem zrN_s {m : MI} {A j : Nat} : u2 (zrN m A j) A j (nI 0) = zrN m A (j + 1) := by
  funext z q
  rw [u2_if]
  unfold zrN
  by_cases h1 : z = A ∧ q = j
  · rw [if_pos h1, if_pos ⟨h1.1, by omega⟩]
  · rw [if_neg h1]
    by_cases h2 : z = A ∧ q < j
    · rw [if_pos h2, if_pos ⟨h2.1, by omega⟩]
    · rw [if_neg h2, if_neg (by omega)]
theorem zrN_o {m : MI} {A n z : Nat} (h : z ≠ A) : zrN m A n z = m z := by
  funext q
  unfold zrN
  rw [if_neg (by omega)]
theorem zrN_i {m : MI} {A n q : Nat} (h : q < n) : zrN m A n A q = nI 0 := by unfold zrN; rw [if_pos ⟨rfl, h⟩]
section
variable {nb db b : Nat} {by_ rs : RX} {c : Nat} {m mi mj mi' : MI} {ml mk ml' : ML} {rv : Option AV}
theorem RA_42 (K : Go m_r_readAll 63 [some (vR 19 0 48), some (vI (nI 0))] [] rv c (MRc nb db by_ rs) (zrN m 55 63) ml mi' ml') : Go m_r_readAll 42 [some (vR 19 0 48), some (vI (nI 0))] [] rv c (MRc nb db by_ rs) m ml mi' ml' := by
  have go : ∀ j, j ≤ 63 → ∀ l : Int32, l = nI j → Go m_r_readAll 42 [some (vR 19 0 48), some (vI l)] [] rv c (MRc nb db by_ rs) (zrN m 55 j) ml mi' ml' := by
    refine upto (fun l hl => ?_) (fun j hj ih l hl => ?_)
    · exact g_r_readAll_42 ⟨fun _ => K, fun z => absurd (by rw [hl]; decide) z⟩
    · refine g_r_readAll_42 ⟨fun z => absurd z (by rw [hl, nI_leI (by decide) (by omega)]; omega), fun _ => ⟨ixn hl hj (by decide), ?_⟩⟩
      rw [cln hl (by omega), zrN_s]
      exact ih _ (inc hl)
  have h := go 0 (by decide) _ rfl
  rw [zrN_0] at h
  exact h
theorem RA_63 (E : ∀ l : Int32, l = nI 31 → Go m_r_readAll 63 [some (vR 19 0 48), some (vI l)] [] rv c (MRc nb db by_ rs) (zrN m 52 31) ml mi' ml') : Go m_r_readAll 63 [some (vR 19 0 48), some (vI (nI 0))] [] rv c (MRc nb db by_ rs) m ml mi' ml' := by
  have go : ∀ j, j ≤ 31 → ∀ l : Int32, l = nI j → Go m_r_readAll 63 [some (vR 19 0 48), some (vI l)] [] rv c (MRc nb db by_ rs) (zrN m 52 j) ml mi' ml' := by
    refine upto (fun l hl => E l hl) (fun j hj ih l hl => ?_)
    refine g_r_readAll_63 ⟨fun z => absurd z (by rw [hl, nI_leI (by decide) (by omega)]; omega), fun _ => ⟨ixn hl hj (by decide), ?_⟩⟩
    rw [cln hl (by omega), zrN_s]
    exact ih _ (inc hl)
  have h := go 0 (by decide) _ rfl
  rw [zrN_0] at h
  exact h
theorem R_clear (hbb : b = 43 ∨ b = 5) : ∃ m', Ret m_bn_clear [vR 13 0 b] none c (MRc nb db by_ rs) mi ml m' ml ∧ (∀ k, k < 8 → m' b k = nI 0) ∧ (∀ k, k < 31 → m' (b + 1) k = nI 0 ∧ m' (b + 2) k = nI 0 ∧ m' (b + 3) k = nI 0) ∧ ∀ z, z ≠ b → z ≠ b + 1 → z ≠ b + 2 → z ≠ b + 3 → m' z = mi z := by
  have go : ∀ n j, 31 - j = n → j ≤ 31 → ∀ (l : Int32) (m : MI), l = nI j → ∃ m', Go m_bn_clear 42 [some (vR 13 0 b), some (vI l)] [] none c (MRc nb db by_ rs) m ml m' ml ∧ (∀ k, j ≤ k → k < 31 → m' (b + 1) k = nI 0 ∧ m' (b + 2) k = nI 0 ∧ m' (b + 3) k = nI 0) ∧ (∀ z k, k < j → m' z k = m z k) ∧ ∀ z, z ≠ b + 1 → z ≠ b + 2 → z ≠ b + 3 → m' z = m z := by
    intro n
    induction n with
    | zero =>
      intro j hn hj l m hl
      have e : j = 31 := by omega
      rw [e] at hl
      exact ⟨m, g_bn_clear_42 hbb ⟨fun _ => ⟨rfl, rfl, rfl⟩, fun z => absurd (by rw [hl]; decide) z⟩, fun k h1 h2 => absurd h2 (by omega), fun _ _ _ => rfl, fun _ _ _ _ => rfl⟩
    | succ n ih =>
      intro j hn hj l m hl
      obtain ⟨m', k1, k2, k3, k4⟩ := ih (j + 1) (by omega) (by omega) (l + nI 1) (u2 (u2 (u2 m (b + 1) j (nI 0)) (b + 2) j (nI 0)) (b + 3) j (nI 0)) (inc hl)
      refine ⟨m', g_bn_clear_42 hbb ⟨fun z => absurd z (by rw [hl, nI_leI (by decide) (by omega)]; omega), fun _ => ⟨ixn hl (by omega) (by decide), ixn hl (by omega) (by decide), ixn hl (by omega) (by decide), ?_⟩⟩, fun k h1 h2 => ?_, fun z k hk => ?_, fun z h1 h2 h3 => ?_⟩
      · rw [cln hl (by omega)]; exact k1
      · by_cases e : k = j
        · rw [e, k3 _ j (by omega), k3 _ j (by omega), k3 _ j (by omega)]
          refine ⟨?_, ?_, ?_⟩
          · rw [u2_ne2 _ _ (Or.inl (by omega)), u2_ne2 _ _ (Or.inl (by omega)), u2_s]
          · rw [u2_ne2 _ _ (Or.inl (by omega)), u2_s]
          · rw [u2_s]
        · exact k2 k (by omega) h2
      · rw [k3 z k (by omega), u2_ne2 _ _ (Or.inr (by omega)), u2_ne2 _ _ (Or.inr (by omega)), u2_ne2 _ _ (Or.inr (by omega))]
      · rw [k4 z h1 h2 h3, u2_o _ _ h3, u2_o _ _ h2, u2_o _ _ h1]
  obtain ⟨m', k1, k2, k3, k4⟩ := go 31 0 rfl (by decide) (nI 0) (u2 (u2 (u2 (u2 (u2 (u2 (u2 (u2 mi b 0 (nI 0)) b 1 (nI 0)) b 2 (nI 0)) b 3 (nI 0)) b 4 (nI 0)) b 5 (nI 0)) b 6 (nI 0)) b 7 (nI 0)) rfl
  refine ⟨m', g_bn_clear_0 hbb k1, fun k hk => ?_, fun k hk => k2 k (Nat.zero_le _) hk, fun z h0 h1 h2 h3 => ?_⟩
  · rw [k4 b (by omega) (by omega) (by omega)]
    have : k = 0 ∨ k = 1 ∨ k = 2 ∨ k = 3 ∨ k = 4 ∨ k = 5 ∨ k = 6 ∨ k = 7 := by omega
    rcases this with h | h | h | h | h | h | h | h <;> rw [h] <;> simp [u2_if]
  · rw [k4 z h1 h2 h3, u2_o _ _ h0, u2_o _ _ h0, u2_o _ _ h0, u2_o _ _ h0, u2_o _ _ h0, u2_o _ _ h0, u2_o _ _ h0, u2_o _ _ h0]
end
