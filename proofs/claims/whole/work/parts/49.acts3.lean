/-! ===== acts: shine, stick, lose ===== -/
theorem WF.next {σ σ' : SG} (h : WF σ) (hr : σ 0 0 = 1) (h0 : ∀ k, k ≠ 1 → k ≠ 10 → k ≠ 11 → k ≠ 12 → k ≠ 15 → k ≠ 13 → k ≠ 14 → σ' 0 k = σ 0 k) (h1 : 0 ≤ σ' 0 1 ∧ σ' 0 1 ≤ 5) (h10 : 0 ≤ σ' 0 10 ∧ σ' 0 10 < 2 ^ (σ 0 5).toNat) (h11 : 0 ≤ σ' 0 11 ∧ σ' 0 11 ≤ 20) (h12 : σ' 0 12 = 0 ∨ σ' 0 12 = 1) (h15 : 0 ≤ σ' 0 15 ∧ σ' 0 15 ≤ 10) (hl : ∀ j, 0 ≤ σ' 1 j ∧ σ' 1 j ≤ 9999) (hs : ∀ j, σ' 2 j = 0 ∨ σ' 2 j = 1 ∨ σ' 2 j = 2) (h3 : σ' 3 = σ 3) (h4 : σ' 4 = σ 4) (h8 : σ' 8 = σ 8) : WF σ' := by
  have e := fun k a b c d e f g => h0 k a b c d e f g
  have e0 := e 0 (by decide) (by decide) (by decide) (by decide) (by decide) (by decide) (by decide)
  have e4 := e 4 (by decide) (by decide) (by decide) (by decide) (by decide) (by decide) (by decide)
  have e5 := e 5 (by decide) (by decide) (by decide) (by decide) (by decide) (by decide) (by decide)
  have e6 := e 6 (by decide) (by decide) (by decide) (by decide) (by decide) (by decide) (by decide)
  have e7 := e 7 (by decide) (by decide) (by decide) (by decide) (by decide) (by decide) (by decide)
  have e8 := e 8 (by decide) (by decide) (by decide) (by decide) (by decide) (by decide) (by decide)
  have e9 := e 9 (by decide) (by decide) (by decide) (by decide) (by decide) (by decide) (by decide)
  obtain ⟨a1, a2, a3, a4, a5, a6, a7, a8, a9, a10, a11, a12, a13, a14⟩ := h
  unfold WF
  rw [e0, e4, e5, e6, e7, e8, e9, h3, h4, h8]
  refine ⟨?_, a2, a3, h10, h11, h12, h15, a8, h1, hl, hs, a12, a13, a14⟩
  rcases a1 with z | z
  · omega
  · exact Or.inr z
section
variable {nb db b : Nat} {by_ rs : RX} {c : Nat} {σ σ' : SG} {mi mi' mj mj' : MI} {ml mk : ML} {x j : Int32}
/-- the class after a change that ends what was seen -/
theorem FC.act {K : Nat} (hK : K ≤ 10) (I : IC σ nb mi) (h0 : ∀ k, k ≠ 1 → k ≠ 10 → k ≠ 11 → k ≠ 12 → k ≠ 15 → σ' 0 k = σ 0 k) (h1 : σ' 0 1 = 0) (h11 : σ' 0 11 = 0) (h12 : σ' 0 12 = 0) (h15 : σ' 0 15 = K) (hW : WF σ') (hA : WA σ') (h8 : σ' 8 = σ 8) (m1 : ∀ k, k ≠ 9 → mi' 1 k = mi 1 k) (m19 : mi' 1 9 = nI 0) (m2 : mi' 2 = mi 2) (m3 : mi' 3 = mi 3) (m11 : ∀ k, k ≠ 2 → k ≠ 3 → mi' 11 k = mi 11 k) (m112 : mi' 11 2 = nI 0) (m113 : mi' 11 3 = nI 0) (m39 : mi' 39 0 = nI K) (hB : RCb σ' nb mi') (hR : RCa σ' mi') : FC σ' nb mi' ml := by
  obtain ⟨-, ⟨a1, a2, a3, a4, a5, a6, a7, a8, a9, a10, a11⟩, -⟩ := I
  refine ⟨⟨hW, ⟨?_, ?_, ?_, fun z => by omega, ?_, fun k hk => ?_, ?_, ?_, ?_, ?_, ?_⟩, fun _ => hB⟩, fun i hi => by omega, fun i hi => by omega, fun z => by omega, hA, hR⟩
  · rw [m1 8 (by decide), a1, h0 0 (by decide) (by decide) (by decide) (by decide) (by decide)]
  · rw [m19, h1]; rfl
  · rw [m1 10 (by decide), a3, h0 2 (by decide) (by decide) (by decide) (by decide) (by decide)]
  · rw [m2, a5, h0 4 (by decide) (by decide) (by decide) (by decide) (by decide)]
  · rw [h0 4 (by decide) (by decide) (by decide) (by decide) (by decide)] at hk
    rw [m3, h8]; exact a6 k hk
  · rw [m11 0 (by decide) (by decide), a7, h0 13 (by decide) (by decide) (by decide) (by decide) (by decide)]
  · rw [m11 1 (by decide) (by decide), a8, h0 14 (by decide) (by decide) (by decide) (by decide) (by decide)]
  · rw [m112, h11]; rfl
  · rw [m113, h12]; rfl
  · rw [m39, h15]; rfl
theorem FR.act {K : Nat} (hK : K ≤ 10) (J : IR σ mj) (h0 : ∀ k, k ≠ 1 → k ≠ 10 → k ≠ 11 → k ≠ 12 → k ≠ 15 → σ' 0 k = σ 0 k) (h1 : σ' 0 1 = 0) (h11 : σ' 0 11 = 0) (h12 : σ' 0 12 = 0) (h15 : σ' 0 15 = K) (hW : WF σ') (h8 : σ' 8 = σ 8) (m1 : mj' 48 1 = nI 0) (m2 : mj' 48 2 = -(nI 1)) (m30 : mj' 48 30 = nI K) (m43 : mj' 48 43 = nI 0) (m46 : mj' 48 46 = nI 0) (mo : ∀ k, k ≠ 0 → k ≠ 1 → k ≠ 2 → k ≠ 30 → k ≠ 43 → k ≠ 46 → mj' 48 k = mj 48 k) (m57 : mj' 57 = mj 57) (m62 : mj' 54 62 = zI (σ' 0 10)) (hB : RMb σ' mj') (hP : RMp σ' mj') : FR σ' mj' := by
  obtain ⟨-, ⟨a1, a2, a3, a4, a5, a6, a7, a8, a9, a10, a11, a12, a13, a14, a15⟩, -⟩ := J
  have e := fun k a b c d e => h0 k a b c d e
  have z0 := e 0 (by decide) (by decide) (by decide) (by decide) (by decide)
  have z4 := e 4 (by decide) (by decide) (by decide) (by decide) (by decide)
  have mo' := fun k a b c d e f => mo k a b c d e f
  refine ⟨⟨hW, ⟨?_, ?_, ?_, ?_, ?_, ?_, ?_, ?_, ?_, ?_, ?_, ?_, fun k hk => ?_, fun z => ?_, m62⟩, hB⟩, fun i hi => by omega, fun z => by omega, hP⟩
  · rw [m1, h1]; rfl
  · rw [if_neg (by omega), m2]; rfl
  · rw [mo' 5 (by decide) (by decide) (by decide) (by decide) (by decide) (by decide), a3, e 5 (by decide) (by decide) (by decide) (by decide) (by decide)]
  · rw [mo' 9 (by decide) (by decide) (by decide) (by decide) (by decide) (by decide), a4, e 9 (by decide) (by decide) (by decide) (by decide) (by decide)]
  · rw [mo' 26 (by decide) (by decide) (by decide) (by decide) (by decide) (by decide), a5, z0]
  · rw [m30, h15]; rfl
  · rw [mo' 32 (by decide) (by decide) (by decide) (by decide) (by decide) (by decide), a7, z4]
  · rw [mo' 38 (by decide) (by decide) (by decide) (by decide) (by decide) (by decide), a8, e 2 (by decide) (by decide) (by decide) (by decide) (by decide)]
  · rw [m43, h11]; rfl
  · rw [mo' 44 (by decide) (by decide) (by decide) (by decide) (by decide) (by decide), a10, e 13 (by decide) (by decide) (by decide) (by decide) (by decide)]
  · rw [mo' 45 (by decide) (by decide) (by decide) (by decide) (by decide) (by decide), a11, e 14 (by decide) (by decide) (by decide) (by decide) (by decide)]
  · rw [m46, h12]; rfl
  · rw [z4] at hk
    rw [m57, h8]; exact a13 k hk
  · rw [z0] at z
    obtain ⟨b1, b2, b3⟩ := a14 z
    exact ⟨by rw [mo' 6 (by decide) (by decide) (by decide) (by decide) (by decide) (by decide), b1, e 6 (by decide) (by decide) (by decide) (by decide) (by decide)], by rw [mo' 7 (by decide) (by decide) (by decide) (by decide) (by decide) (by decide), b2, e 7 (by decide) (by decide) (by decide) (by decide) (by decide)], by rw [mo' 8 (by decide) (by decide) (by decide) (by decide) (by decide) (by decide), b3, e 8 (by decide) (by decide) (by decide) (by decide) (by decide)]⟩
/-- acts after a further one -/
theorem WA.act {K : Nat} (hK : K ≤ 10) (hk : σ 0 15 = K) (hA : WA σ) {s n b : Int} (h5 : σ' 0 5 = σ 0 5) (h15 : σ' 0 15 = (kp1 K : Int)) (h9 : ∀ k, σ' 9 k = if k = kp1 K - 1 then s else if K < 10 then σ 9 k else σ 9 (k + 1)) (h10 : ∀ k, σ' 10 k = if k = kp1 K - 1 then n else if K < 10 then σ 10 k else σ 10 (k + 1)) (h11 : ∀ k, σ' 11 k = if k = kp1 K - 1 then b else if K < 10 then σ 11 k else σ 11 (k + 1)) (hn : 0 ≤ n ∧ n < σ 0 5) (hb : (s = 0 ∧ 0 ≤ b ∧ b ≤ 9999) ∨ (s = 1 ∧ (b = 0 ∨ b = 1 ∨ b = 2)) ∨ s = 2) : WA σ' := by
  intro i hi
  have hkb := kp1_b hK
  rw [h5, h9, h10, h11]
  by_cases e : i = kp1 K - 1
  · rw [if_pos e, if_pos e, if_pos e]; exact ⟨hn, hb⟩
  · rw [if_neg e, if_neg e, if_neg e]
    by_cases h : K < 10
    · rw [if_pos h, if_pos h, if_pos h]
      have : kp1 K = K + 1 := if_pos h
      exact hA i (by omega)
    · rw [if_neg h, if_neg h, if_neg h]
      have : kp1 K = 10 := if_neg h
      exact hA (i + 1) (by omega)
theorem RCa.act {K : Nat} (hK : K ≤ 10) (hk : σ 0 15 = K) (hR : RCa σ mi) {s n b : Int} (h15 : σ' 0 15 = (kp1 K : Int)) (h9 : ∀ k, σ' 9 k = if k = kp1 K - 1 then s else if K < 10 then σ 9 k else σ 9 (k + 1)) (h10 : ∀ k, σ' 10 k = if k = kp1 K - 1 then n else if K < 10 then σ 10 k else σ 10 (k + 1)) (h11 : ∀ k, σ' 11 k = if k = kp1 K - 1 then b else if K < 10 then σ 11 k else σ 11 (k + 1)) (m0 : mi' 40 (kp1 K - 1) = zI s ∧ mi' 41 (kp1 K - 1) = zI n ∧ mi' 42 (kp1 K - 1) = zI b) (m1 : ∀ a, a = 40 ∨ a = 41 ∨ a = 42 → ∀ k, k < kp1 K - 1 → mi' a k = if K < 10 then mi a k else mi a (k + 1)) : RCa σ' mi' := by
  intro i hi
  have hkb := kp1_b hK
  rw [h9, h10, h11]
  by_cases e : i = kp1 K - 1
  · rw [if_pos e, if_pos e, if_pos e, e]; exact m0
  · rw [if_neg e, if_neg e, if_neg e, m1 40 (Or.inl rfl) i (by omega), m1 41 (Or.inr (Or.inl rfl)) i (by omega), m1 42 (Or.inr (Or.inr rfl)) i (by omega)]
    by_cases h : K < 10
    · rw [if_pos h, if_pos h, if_pos h, if_pos h, if_pos h, if_pos h]
      have : kp1 K = K + 1 := if_pos h
      exact hR i (by omega)
    · rw [if_neg h, if_neg h, if_neg h, if_neg h, if_neg h, if_neg h]
      have : kp1 K = 10 := if_neg h
      exact hR (i + 1) (by omega)
theorem RMp.act {K : Nat} (hK : K ≤ 10) (hk : σ 0 15 = K) (hP : RMp σ mj) (h5 : σ' 0 5 = σ 0 5) (h15 : σ' 0 15 = (kp1 K : Int)) (hpa : ∀ d, d + 1 ≤ kp1 K → ∀ k, k < 63 → pa_ σ' (d + 1) k = pa_ σ d k) (hx : ∀ k, k < 63 → rel σ k → mj 54 k = zI (xv σ k)) (m1 : ∀ k, k < 63 → mj' 56 (63 * (kp1 K - 1) + k) = mj 54 k) (m2 : ∀ i k, i < kp1 K - 1 → k < 63 → mj' 56 (63 * i + k) = if K < 10 then mj 56 (63 * i + k) else mj 56 (63 * (i + 1) + k)) : RMp σ' mj' := by
  intro d hd0 hd k hk63 hrel
  have hkb := kp1_b hK
  have hrel : rel σ k := by unfold rel at hrel ⊢; rw [h5] at hrel; exact hrel
  have e15 : (σ' 0 15).toNat = kp1 K := by omega
  have e15' : (σ 0 15).toNat = K := by omega
  obtain ⟨d', rfl⟩ : ∃ d', d = d' + 1 := ⟨d - 1, by omega⟩
  rw [e15, hpa d' (by omega) k hk63]
  cases d' with
  | zero => rw [m1 k hk63]; exact hx k hk63 hrel
  | succ d' =>
    rw [m2 _ k (by omega) hk63]
    by_cases h : K < 10
    · have : kp1 K = K + 1 := if_pos h
      rw [if_pos h, show kp1 K - (d' + 1 + 1) = K - (d' + 1) by omega, ← e15']
      exact hP (d' + 1) (by omega) (by omega) k hk63 hrel
    · have : kp1 K = 10 := if_neg h
      rw [if_neg h, show kp1 K - (d' + 1 + 1) + 1 = K - (d' + 1) by omega, ← e15']
      exact hP (d' + 1) (by omega) (by omega) k hk63 hrel
theorem xv_ref (hB : RMb σ mj) (h62 : mj 54 62 = zI (σ 0 10)) (hn : σ 0 5 ≤ 31) {k : Nat} (hk : k < 63) (h : rel σ k) : mj 54 k = zI (xv σ k) := by
  unfold xv
  rcases h with h | h | h
  · rw [if_pos (by omega)]; exact hB.2.1 k h
  · by_cases h2 : k = 62
    · rw [if_neg (by omega), if_neg (by omega), h2, h62]
    · rw [if_neg (by omega), if_pos (by omega)]
      have := hB.2.2.1 (k - 31) (by omega)
      rw [show 31 + (k - 31) = k by omega] at this
      exact this
  · rw [if_neg (by omega), if_neg (by omega), h, h62]
end
