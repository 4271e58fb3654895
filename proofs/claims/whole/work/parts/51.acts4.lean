/-! ===== acts: the calls ===== -/
section
variable {nb db b : Nat} {by_ rs : RX} {c : Nat} {σ σ' : SG} {mi mi' mj mj' m1 m2 : MI} {ml mk : ML} {x j : Int32}
theorem Adv.ofA {yw yr : Nat} {as : List AV} (hb : nb = 43 ∧ db = 5 ∨ nb = 5 ∧ db = 43) (I : FC σ nb mi ml) (J : FR σ mj) (A : Agr yw yr as nb db by_ rs mi ml mj mk) : Adv yw yr as nb db by_ rs σ mi ml mj mk := by
  intro c
  obtain ⟨v, σ', mi', mj', mk', h1, h2, h3, h4, h5, h6, h7, h8, h9⟩ := Adv.of hb I J A c
  refine ⟨v, σ', mi', ml, mj', mk', h1, h2, h3, h4, ⟨h5.r4, h5.2 9 (by omega), h5.n, h5.2 0 (by omega), h5.kd⟩, fun a ha _ => h6 a ha, fun a ha => ?_, fun _ _ => rfl, h8, h9⟩
  rcases ha with z | z
  · rw [z]; exact h7
  · exact h6 a (by omega)
/-- what an act makes of a state -/
def ActOf (σ σ' : SG) (K : Nat) (s n b : Int) : Prop :=
  (∀ k, k ≠ 1 → k ≠ 10 → k ≠ 11 → k ≠ 12 → k ≠ 15 → σ' 0 k = σ 0 k) ∧ σ' 0 1 = 0 ∧ σ' 0 11 = 0 ∧ σ' 0 12 = 0 ∧ σ' 0 15 = (kp1 K : Int) ∧ σ' 3 = σ 3 ∧ σ' 4 = σ 4 ∧ σ' 8 = σ 8
  ∧ (∀ k, σ' 9 k = if k = kp1 K - 1 then s else if K < 10 then σ 9 k else σ 9 (k + 1)) ∧ (∀ k, σ' 10 k = if k = kp1 K - 1 then n else if K < 10 then σ 10 k else σ 10 (k + 1)) ∧ (∀ k, σ' 11 k = if k = kp1 K - 1 then b else if K < 10 then σ 11 k else σ 11 (k + 1)) ∧ (∀ k, k < 63 → und s n b (xv σ') k = xv σ k)
end
