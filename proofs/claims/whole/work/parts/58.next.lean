/-! ===== look and scan: the next state, bench and acts as they were ===== -/
section
variable {nb db b : Nat} {by_ rs : RX} {c : Nat} {σ τ : SG} {mi mi' mj mj' : MI} {ml ml' mk : ML} {w : Nat}
theorem WF.nx (h : WF σ) (hr : σ 0 0 = 1) (S : SGs σ τ) (z : ∀ k, k ≠ 1 → k ≠ 11 → k ≠ 13 → k ≠ 14 → τ 0 k = σ 0 k) (r8 : τ 8 = σ 8) (w1 : 0 ≤ τ 0 1 ∧ τ 0 1 ≤ 5) (h11 : 0 ≤ τ 0 11 ∧ τ 0 11 ≤ 20) : WF τ := by
  have e10 := z 10 (by decide) (by decide) (by decide) (by decide)
  have e12 := z 12 (by decide) (by decide) (by decide) (by decide)
  have e15 := z 15 (by decide) (by decide) (by decide) (by decide)
  exact h.next hr (fun k a _ d _ _ f g => z k a d f g) w1 (by rw [e10]; exact h.lost) h11 (by rw [e12]; exact h.sc) (by rw [e15]; exact h.ac) (fun k => by rw [S.r1]; exact h.lights k) (fun k => by rw [S.r2]; exact h.shut k) S.r3 S.r4 r8
theorem FC.nx (hbb : nb = 43 ∨ nb = 5) (h : FC σ nb mi ml) (hr : σ 0 0 = 1) (S : SGs σ τ) (z : ∀ k, k ≠ 1 → k ≠ 11 → k ≠ 13 → k ≠ 14 → τ 0 k = σ 0 k) (r8 : τ 8 = σ 8) (r9 : τ 9 = σ 9) (r10 : τ 10 = σ 10) (r11 : τ 11 = σ 11) (w1 : 0 ≤ τ 0 1 ∧ τ 0 1 ≤ 5) (w4 : τ 0 1 ≠ 4) (h11 : 0 ≤ τ 0 11 ∧ τ 0 11 ≤ 20) (hL : WL τ) (hl : RCl τ mi') (m1k : ∀ k, k ≠ 9 → mi' 1 k = mi 1 k) (m19 : mi' 1 9 = zI (τ 0 1)) (m0 : mi' 11 0 = zI (τ 0 13)) (m1 : mi' 11 1 = zI (τ 0 14)) (m2 : mi' 11 2 = zI (τ 0 11)) (m3 : mi' 11 3 = mi 11 3) (g : ∀ a, a ≠ 1 → a ≠ 11 → a ≠ 12 → a ≠ 13 → mi' a = mi a) : FC τ nb mi' ml := by
  obtain ⟨⟨hW, ⟨a1, a2, a3, a4, a5, a6, a7, a8, a9, a10, a11⟩, hB⟩, -, -, hN, hA, hR⟩ := h
  have z0 := z 0 (by decide) (by decide) (by decide) (by decide)
  have z2 := z 2 (by decide) (by decide) (by decide) (by decide)
  have z4 := z 4 (by decide) (by decide) (by decide) (by decide)
  have z5 := z 5 (by decide) (by decide) (by decide) (by decide)
  have z12 := z 12 (by decide) (by decide) (by decide) (by decide)
  have z15 := z 15 (by decide) (by decide) (by decide) (by decide)
  refine ⟨⟨hW.nx hr S z r8 w1 h11, ⟨?_, m19, ?_, fun e => absurd e w4, ?_, fun k hk => ?_, m0, m1, m2, ?_, ?_⟩, fun _ => ?_⟩, hL, hl, S.e_RCn hN (g 14 (by decide) (by decide) (by decide) (by decide)) (g 15 (by decide) (by decide) (by decide) (by decide)) rfl rfl, fun i hi => ?_, fun i hi => ?_⟩
  · rw [m1k 8 (by decide), a1, z0]
  · rw [m1k 10 (by decide), a3, z2]
  · rw [g 2 (by decide) (by decide) (by decide) (by decide), a5, z4]
  · rw [z4] at hk
    rw [g 3 (by decide) (by decide) (by decide) (by decide), r8]; exact a6 k hk
  · rw [m3, a10, z12]
  · rw [g 39 (by decide) (by decide) (by decide) (by decide), a11, z15]
  · exact S.e_RCb ((hB hr).fr hbb (fun q hq => g q (by omega) (by omega) (by omega) (by omega)))
  · rw [z15] at hi
    rw [r9, r10, r11, z5]; exact hA i hi
  · rw [z15] at hi
    rw [g 40 (by decide) (by decide) (by decide) (by decide), g 41 (by decide) (by decide) (by decide) (by decide), g 42 (by decide) (by decide) (by decide) (by decide), r9, r10, r11]; exact hR i hi
theorem FR.nx (h : FR σ mj) (hr : σ 0 0 = 1) (S : SGs σ τ) (z : ∀ k, k ≠ 1 → k ≠ 11 → k ≠ 13 → k ≠ 14 → τ 0 k = σ 0 k) (r8 : τ 8 = σ 8) (r9 : τ 9 = σ 9) (r10 : τ 10 = σ 10) (r11 : τ 11 = σ 11) (w1 : 0 ≤ τ 0 1 ∧ τ 0 1 ≤ 5) (w4 : τ 0 1 ≠ 4) (h11 : 0 ≤ τ 0 11 ∧ τ 0 11 ≤ 20) (hl : RMl τ mj') (m1 : mj' 48 1 = zI (τ 0 1)) (m2 : mj' 48 2 = -(nI 1)) (m43 : mj' 48 43 = zI (τ 0 11)) (m44 : mj' 48 44 = zI (τ 0 13)) (m45 : mj' 48 45 = zI (τ 0 14)) (f3 : ∀ k, k ≠ 0 → k ≠ 1 → k ≠ 2 → k ≠ 43 → k ≠ 44 → k ≠ 45 → mj' 48 k = mj 48 k) (f4 : ∀ a, a ≠ 48 → a ≠ 58 → a ≠ 59 → mj' a = mj a) : FR τ mj' := by
  obtain ⟨⟨hW, ⟨a1, a2, a3, a4, a5, a6, a7, a8, a9, a10, a11, a12, a13, a14, a15⟩, hB⟩, -, hN, hP⟩ := h
  have q := fun k (h1 : k ≠ 1) (h2 : k ≠ 11) (h3 : k ≠ 13) (h4 : k ≠ 14) => z k h1 h2 h3 h4
  have z0 := z 0 (by decide) (by decide) (by decide) (by decide)
  have z4 := z 4 (by decide) (by decide) (by decide) (by decide)
  refine ⟨⟨hW.nx hr S z r8 w1 h11, ⟨m1, ?_, ?_, ?_, ?_, ?_, ?_, ?_, m43, m44, m45, ?_, fun k hk => ?_, fun e => ?_, ?_⟩, S.e_RMb (hB.eq (fun q hq => f4 q (by omega) (by omega) (by omega)))⟩, hl, S.e_RMn hN (f4 60 (by decide) (by decide) (by decide)), S.e_RMp (z 15 (by decide) (by decide) (by decide) (by decide)) r9 r10 r11 hP (f4 56 (by decide) (by decide) (by decide))⟩
  · rw [if_neg w4, m2]; rfl
  · rw [f3 5 (by decide) (by decide) (by decide) (by decide) (by decide) (by decide), a3, z 5 (by decide) (by decide) (by decide) (by decide)]
  · rw [f3 9 (by decide) (by decide) (by decide) (by decide) (by decide) (by decide), a4, z 9 (by decide) (by decide) (by decide) (by decide)]
  · rw [f3 26 (by decide) (by decide) (by decide) (by decide) (by decide) (by decide), a5, z0]
  · rw [f3 30 (by decide) (by decide) (by decide) (by decide) (by decide) (by decide), a6, z 15 (by decide) (by decide) (by decide) (by decide)]
  · rw [f3 32 (by decide) (by decide) (by decide) (by decide) (by decide) (by decide), a7, z4]
  · rw [f3 38 (by decide) (by decide) (by decide) (by decide) (by decide) (by decide), a8, z 2 (by decide) (by decide) (by decide) (by decide)]
  · rw [f3 46 (by decide) (by decide) (by decide) (by decide) (by decide) (by decide), a12, z 12 (by decide) (by decide) (by decide) (by decide)]
  · rw [z4] at hk
    rw [f4 57 (by decide) (by decide) (by decide), r8]; exact a13 k hk
  · rw [z0] at e
    obtain ⟨b1, b2, b3⟩ := a14 e
    exact ⟨by rw [f3 6 (by decide) (by decide) (by decide) (by decide) (by decide) (by decide), b1, z 6 (by decide) (by decide) (by decide) (by decide)], by rw [f3 7 (by decide) (by decide) (by decide) (by decide) (by decide) (by decide), b2, z 7 (by decide) (by decide) (by decide) (by decide)], by rw [f3 8 (by decide) (by decide) (by decide) (by decide) (by decide) (by decide), b3, z 8 (by decide) (by decide) (by decide) (by decide)]⟩
  · rw [f4 54 (by decide) (by decide) (by decide), a15, z 10 (by decide) (by decide) (by decide) (by decide)]
end
