/-! ===== the reference takes over what was read: its copies ===== -/
def cpN (m : MI) (A B n : Nat) : MI := fun z q => if z = A ∧ q < n then m B q else m z q
theorem cpN_0 (m : MI) (A B : Nat) : cpN m A B 0 = m := by
  funext z q
  unfold cpN
  rw [if_neg (by omega)]
theorem cpN_s {m : MI} {A B j : Nat} (h : A ≠ B) : u2 (cpN m A B j) A j ((cpN m A B j) B j) = cpN m A B (j + 1) := by
  funext z q
  have e : (cpN m A B j) B j = m B j := by unfold cpN; rw [if_neg (by omega)]
  rw [e, u2_if]
  unfold cpN
  by_cases h1 : z = A ∧ q = j
  · rw [if_pos h1, if_pos ⟨h1.1, by omega⟩, h1.2]
  · rw [if_neg h1]
    by_cases h2 : z = A ∧ q < j
    · rw [if_pos h2, if_pos ⟨h2.1, by omega⟩]
    · rw [if_neg h2, if_neg (by omega)]
theorem cpN_o {m : MI} {A B n z : Nat} (h : z ≠ A) : cpN m A B n z = m z := by
  funext q
  unfold cpN
  rw [if_neg (by omega)]
theorem cpN_i {m : MI} {A B n q : Nat} (h : q < n) : cpN m A B n A q = m B q := by unfold cpN; rw [if_pos ⟨rfl, h⟩]
section
variable {nb db b : Nat} {by_ rs : RX} {c : Nat} {m mi mj mi' : MI} {ml mk ml' : ML} {rv : Option AV}
theorem TO_47 (K : Go m_r_takesOver 73 [some (vR 19 0 48), some (vI (nI 0))] [] rv c (MRc nb db by_ rs) (cpN m 54 55 63) ml mi' ml') : Go m_r_takesOver 47 [some (vR 19 0 48), some (vI (nI 0))] [] rv c (MRc nb db by_ rs) m ml mi' ml' := by
  have go : ∀ j, j ≤ 63 → ∀ l : Int32, l = nI j → Go m_r_takesOver 47 [some (vR 19 0 48), some (vI l)] [] rv c (MRc nb db by_ rs) (cpN m 54 55 j) ml mi' ml' := by
    refine upto (fun l hl => ?_) (fun j hj ih l hl => ?_)
    · exact g_r_takesOver_47 ⟨fun _ => K, fun z => absurd (by rw [hl]; decide) z⟩
    · refine g_r_takesOver_47 ⟨fun z => absurd z (by rw [hl, nI_leI (by decide) (by omega)]; omega), fun _ => ⟨ixn hl hj (by decide), ixn hl hj (by decide), ?_⟩⟩
      rw [cln hl (by omega), cpN_s (by decide)]
      exact ih _ (inc hl)
  have h := go 0 (by decide) _ rfl
  rw [cpN_0] at h
  exact h
theorem TO_73 (K : Go m_r_takesOver 99 [some (vR 19 0 48), some (vI (nI 0))] [] rv c (MRc nb db by_ rs) (cpN m 50 52 31) ml mi' ml') : Go m_r_takesOver 73 [some (vR 19 0 48), some (vI (nI 0))] [] rv c (MRc nb db by_ rs) m ml mi' ml' := by
  have go : ∀ j, j ≤ 31 → ∀ l : Int32, l = nI j → Go m_r_takesOver 73 [some (vR 19 0 48), some (vI l)] [] rv c (MRc nb db by_ rs) (cpN m 50 52 j) ml mi' ml' := by
    refine upto (fun l hl => ?_) (fun j hj ih l hl => ?_)
    · exact g_r_takesOver_73 ⟨fun _ => K, fun z => absurd (by rw [hl]; decide) z⟩
    · refine g_r_takesOver_73 ⟨fun z => absurd z (by rw [hl, nI_leI (by decide) (by omega)]; omega), fun _ => ⟨ixn hl hj (by decide), ixn hl hj (by decide), ?_⟩⟩
      rw [cln hl (by omega), cpN_s (by decide)]
      exact ih _ (inc hl)
  have h := go 0 (by decide) _ rfl
  rw [cpN_0] at h
  exact h
theorem TO_99 {K : Nat} (hK : K ≤ 12) (h9 : m 48 9 = nI K) (E : ∀ l : Int32, l = nI K → Go m_r_takesOver 99 [some (vR 19 0 48), some (vI l)] [] rv c (MRc nb db by_ rs) (cpN m 51 53 K) ml mi' ml') : Go m_r_takesOver 99 [some (vR 19 0 48), some (vI (nI 0))] [] rv c (MRc nb db by_ rs) m ml mi' ml' := by
  have go : ∀ j, j ≤ K → ∀ l : Int32, l = nI j → Go m_r_takesOver 99 [some (vR 19 0 48), some (vI l)] [] rv c (MRc nb db by_ rs) (cpN m 51 53 j) ml mi' ml' := by
    refine upto (fun l hl => E l hl) (fun j hj ih l hl => ?_)
    refine g_r_takesOver_99 ⟨fun z => absurd z (by rw [cpN_o (by decide), h9, hl, nI_leI (by omega) (by omega)]; omega), fun _ => ⟨ixn hl (by omega) (by decide), ixn hl (by omega) (by decide), ?_⟩⟩
    rw [cln hl (by omega), cpN_s (by decide)]
    exact ih _ (inc hl)
  have h := go 0 (Nat.zero_le _) _ rfl
  rw [cpN_0] at h
  exact h
end
