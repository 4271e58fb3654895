/-! ===== the reference takes over what was read; a fault; a new bench ===== -/
theorem bn_or {kd N : Nat} (h : bnOK kd N = true) : (kd = 0 ∧ ∃ q, (2 ≤ q ∧ q ≤ 5) ∧ N = 2 ^ q - 1) ∨ (kd = 1 ∧ isPr N) := by
  simp only [bnOK, Bool.or_eq_true, Bool.and_eq_true, beq_iff_eq] at h
  unfold isPr
  rcases h with ⟨h1, h2⟩ | ⟨h1, h2⟩
  · refine Or.inl ⟨h1, ?_⟩
    rcases h2 with ((h | h) | h) | h
    · exact ⟨2, by decide, h⟩
    · exact ⟨3, by decide, h⟩
    · exact ⟨4, by decide, h⟩
    · exact ⟨5, by decide, h⟩
  · exact Or.inr ⟨h1, by omega⟩
section
variable {nb db b : Nat} {by_ rs : RX} {c : Nat} {mi mi' mj mj' : MI} {ml mk : ML} {γ σ : SG} {lit nsy f a : Nat}
theorem RT_over (hr : γ 0 0 = 1) (W : PW γ lit nsy) (R : PDr γ lit nsy mj) :
    ∃ m5, Ret m_r_takesOver [vR 19 0 48] none c (MRc nb db by_ rs) mj mk m5 mk ∧ (m5 48 5 = zI (γ 0 5) ∧ m5 48 6 = zI (γ 0 6) ∧ m5 48 7 = zI (γ 0 7) ∧ m5 48 8 = zI (γ 0 8) ∧ m5 48 9 = zI (γ 0 9) ∧ m5 48 26 = nI 1 ∧ m5 48 30 = nI 0 ∧ m5 48 43 = nI 0 ∧ m5 48 44 = nI 0 ∧ m5 48 45 = nI 0 ∧ m5 48 46 = nI 0) ∧ (m5 48 32 = mj 48 32 ∧ m5 48 38 = mj 48 38) ∧ RMb γ m5 ∧ m5 54 62 = zI (γ 0 10) ∧ ∀ z, z ≠ 48 → z ≠ 49 → z ≠ 50 → z ≠ 51 → z ≠ 54 → m5 z = mj z := by
  have hW := W.1
  obtain ⟨hok, n0, k0, q0, q12⟩ : bnOK (γ 0 6).toNat (γ 0 5).toNat = true ∧ 0 ≤ γ 0 5 ∧ 0 ≤ γ 0 6 ∧ 0 ≤ γ 0 9 ∧ γ 0 9 ≤ 12 := by
    rcases hW.1 with h | h
    · rw [hr] at h; exact absurd h.1 (by decide)
    · exact h.2
  obtain ⟨N, hN3⟩ : ∃ N : Nat, γ 0 5 = N := ⟨(γ 0 5).toNat, by omega⟩
  have hnn := hW.nn
  obtain ⟨K, hK⟩ : ∃ K : Nat, γ 0 9 = K := ⟨(γ 0 9).toNat, by omega⟩
  obtain ⟨kd, hkd⟩ : ∃ kd : Nat, γ 0 6 = kd := ⟨(γ 0 6).toNat, by omega⟩
  rw [hN3, hkd, Int.toNat_natCast, Int.toNat_natCast] at hok
  obtain ⟨r13, r14, r17, r18, r19, r20, r21, r22, r23, s52, s53, s55, s62⟩ := R
  obtain ⟨r14, r15, r16⟩ := r14 hr
  obtain ⟨m0, hm0⟩ : ∃ m : MI, m = u2 (u2 (u2 (u2 (u2 (u2 mj 48 26 (nI 1)) 48 5 (mj 48 13)) 48 6 (mj 48 14)) 48 7 (mj 48 15)) 48 8 (mj 48 16)) 48 9 (mj 48 17) := ⟨_, rfl⟩
  have eo : ∀ z, z ≠ 48 → m0 z = mj z := fun z h => by rw [hm0, u2_o _ _ h, u2_o _ _ h, u2_o _ _ h, u2_o _ _ h, u2_o _ _ h, u2_o _ _ h]
  have ek : ∀ k, k = 32 ∨ k = 38 → m0 48 k = mj 48 k := fun k h => by rw [hm0, u2_ne2 _ _ (Or.inr (by omega)), u2_ne2 _ _ (Or.inr (by omega)), u2_ne2 _ _ (Or.inr (by omega)), u2_ne2 _ _ (Or.inr (by omega)), u2_ne2 _ _ (Or.inr (by omega)), u2_ne2 _ _ (Or.inr (by omega))]
  have e26 : m0 48 26 = nI 1 := by rw [hm0]; simp [u2_if]
  have e5 : m0 48 5 = nI N := by rw [hm0]; simp [u2_if]; rw [r13, hN3]; rfl
  have e6 : m0 48 6 = nI kd := by rw [hm0]; simp [u2_if]; rw [r14, hkd]; rfl
  have e7 : m0 48 7 = zI (γ 0 7) := by rw [hm0]; simp [u2_if]; rw [r15]
  have e8 : m0 48 8 = zI (γ 0 8) := by rw [hm0]; simp [u2_if]; rw [r16]
  have e9 : m0 48 9 = nI K := by rw [hm0]; simp [u2_if]; rw [r17, hK]; rfl
  obtain ⟨m3, hm3⟩ : ∃ m : MI, m = cpN (cpN (cpN m0 54 55 63) 50 52 31) 51 53 K := ⟨_, rfl⟩
  have c48 : m3 48 = m0 48 := by rw [hm3, cpN_o (by decide), cpN_o (by decide), cpN_o (by decide)]
  have c54 : ∀ k, k < 63 → m3 54 k = mj 55 k := fun k hk => by rw [hm3, cpN_o (by decide), cpN_o (by decide), cpN_i hk, eo 55 (by decide)]
  have c50 : ∀ k, k < 31 → m3 50 k = mj 52 k := fun k hk => by rw [hm3, cpN_o (by decide), cpN_i hk, cpN_o (by decide), eo 52 (by decide)]
  have c51 : ∀ k, k < K → m3 51 k = mj 53 k := fun k hk => by rw [hm3, cpN_i hk, cpN_o (by decide), cpN_o (by decide), eo 53 (by decide)]
  have co : ∀ z, z ≠ 48 → z ≠ 50 → z ≠ 51 → z ≠ 54 → m3 z = mj z := fun z h1 h2 h3 h4 => by rw [hm3, cpN_o h3, cpN_o h2, cpN_o h4, eo z h1]
  have L : ∃ m4, ((kd = 1 → Ret m_r_laysSquares [vR 19 0 48] none c (MRc nb db by_ rs) m3 mk m4 mk) ∧ (kd = 0 → Ret m_r_laysDoubled [vR 19 0 48] none c (MRc nb db by_ rs) m3 mk m4 mk)) ∧ PLr kd N 0 m3 m4 ∧ (kd = 0 ∨ kd = 1) := by
    rcases bn_or hok with ⟨h0, q, hq, hNq⟩ | ⟨h1, hp⟩
    · subst h0
      rw [hNq] at e5 ⊢
      obtain ⟨m4, h1, h2⟩ := R_laysDoubled (nb := nb) (db := db) (by_ := by_) (rs := rs) (c := c) (mj := m3) (mk := mk) hq (by rw [c48]; exact e5)
      exact ⟨m4, ⟨fun z => absurd z (by decide), fun _ => h1⟩, h2, Or.inl rfl⟩
    · subst h1
      obtain ⟨m4, h1, h2⟩ := R_laysSquares (nb := nb) (db := db) (by_ := by_) (rs := rs) (c := c) (mj := m3) (mk := mk) hp (by rw [c48]; exact e5)
      exact ⟨m4, ⟨fun _ => h1, fun z => absurd z (by decide)⟩, h2, Or.inr rfl⟩
  obtain ⟨m4, ⟨l1, l0⟩, ⟨p1, -, p3⟩, h01⟩ := L
  obtain ⟨m5, hm5⟩ : ∃ m : MI, m = u2 (u2 (u2 (u2 (u2 m4 48 44 (nI 0)) 48 45 (nI 0)) 48 30 (nI 0)) 48 43 (nI 0)) 48 46 (nI 0) := ⟨_, rfl⟩
  have f48 : ∀ k, k ≠ 44 → k ≠ 45 → k ≠ 30 → k ≠ 43 → k ≠ 46 → m5 48 k = m0 48 k := fun k h1 h2 h3 h4 h5 => by rw [hm5, u2_ne2 _ _ (Or.inr h5), u2_ne2 _ _ (Or.inr h4), u2_ne2 _ _ (Or.inr h3), u2_ne2 _ _ (Or.inr h2), u2_ne2 _ _ (Or.inr h1), p3 48 (by decide), c48]
  have fz : ∀ z, z ≠ 48 → m5 z = m4 z := fun z h => by rw [hm5, u2_o _ _ h, u2_o _ _ h, u2_o _ _ h, u2_o _ _ h, u2_o _ _ h]
  have fo : ∀ z, z ≠ 48 → z ≠ 49 → m5 z = m3 z := fun z h h2 => by rw [fz z h, p3 z h2]
  have G : Go m_r_takesOver 47 [some (vR 19 0 48), some (vI (nI 0))] [] none c (MRc nb db by_ rs) m0 mk m5 mk := by
    refine TO_47 (TO_73 (TO_99 (K := K) (by omega) (by rw [cpN_o (by decide), cpN_o (by decide)]; exact e9) (fun l hl => ?_)))
    rw [← hm3]
    refine g_r_takesOver_99 ⟨fun _ => ⟨fun z => ?_, fun z => ?_⟩, fun z => absurd (by rw [c48, e9, hl]; exact Int32.le_refl _) z⟩
    · have k1 : kd = 1 := by
        rcases h01 with h | h
        · rw [c48, e6, h] at z; exact absurd rfl z
        · exact h
      exact ⟨_, _, l1 k1, rfl, hm5, rfl⟩
    · have k1 : kd = 0 := by
        rcases h01 with h | h
        · exact h
        · rw [c48, e6, h] at z; exact absurd z (by decide)
      exact ⟨_, _, l0 k1, rfl, hm5, rfl⟩
  rw [hm0] at G
  refine ⟨m5, g_r_takesOver_0 G, ⟨?_, ?_, ?_, ?_, ?_, ?_, ?_, ?_, ?_, ?_, ?_⟩, ⟨?_, ?_⟩, ⟨fun i hi => ?_, fun i hi => ?_, fun i hi => ?_, fun i hi => ?_, fun i hi => ?_⟩, ?_, fun z h1 h2 h3 h4 h5 => ?_⟩
  · rw [f48 5 (by decide) (by decide) (by decide) (by decide) (by decide), e5, hN3]; rfl
  · rw [f48 6 (by decide) (by decide) (by decide) (by decide) (by decide), e6, hkd]; rfl
  · rw [f48 7 (by decide) (by decide) (by decide) (by decide) (by decide), e7]
  · rw [f48 8 (by decide) (by decide) (by decide) (by decide) (by decide), e8]
  · rw [f48 9 (by decide) (by decide) (by decide) (by decide) (by decide), e9, hK]; rfl
  · rw [f48 26 (by decide) (by decide) (by decide) (by decide) (by decide), e26]
  · rw [hm5]; simp [u2_if]
  · rw [hm5]; simp [u2_if]
  · rw [hm5]; simp [u2_if]
  · rw [hm5]; simp [u2_if]
  · rw [hm5]; simp [u2_if]
  · rw [f48 32 (by decide) (by decide) (by decide) (by decide) (by decide), ek 32 (by omega)]
  · rw [f48 38 (by decide) (by decide) (by decide) (by decide) (by decide), ek 38 (by omega)]
  · rw [fz 49 (by decide), hN3, hkd, Int.toNat_natCast, Int.toNat_natCast]; exact p1 i (Nat.zero_le _) (by omega)
  · rw [fo 54 (by decide) (by decide), c54 i (by omega)]; exact (s55 i (by omega)).1
  · rw [fo 54 (by decide) (by decide), c54 (31 + i) (by omega)]; exact (s55 i (by omega)).2
  · rw [fo 50 (by decide) (by decide), c50 i (by omega)]; exact s52 i (by omega)
  · rw [fo 51 (by decide) (by decide), c51 i (by omega)]; exact s53 i hi
  · rw [fo 54 (by decide) (by decide), c54 62 (by decide)]; exact s62
  · rw [fo z h1 h2, co z h1 h3 h4 h5]
/-- a bench that was not read: its fault and place -/
def ftS (σ : SG) (f a : Nat) : SG := fun z => if z = 0 then (fun k => if k = 1 then 4 else if k = 2 then (f : Int) else if k = 3 then (a : Int) else if k = 4 then 0 else σ 0 k) else σ z
theorem ftS_o {z : Nat} (h : z ≠ 0) : ftS σ f a z = σ z := if_neg h
theorem ftS_0 {k : Nat} (h1 : k ≠ 1) (h2 : k ≠ 2) (h3 : k ≠ 3) (h4 : k ≠ 4) : ftS σ f a 0 k = σ 0 k := by
  show (if k = 1 then 4 else if k = 2 then (f : Int) else if k = 3 then (a : Int) else if k = 4 then 0 else σ 0 k) = σ 0 k
  rw [if_neg h1, if_neg h2, if_neg h3, if_neg h4]
theorem ftS_k {k : Nat} (h : k = 0 ∨ 5 ≤ k) : ftS σ f a 0 k = σ 0 k := ftS_0 (by omega) (by omega) (by omega) (by omega)
theorem ftS_s : SGs σ (ftS σ f a) := ⟨fun z hz => ftS_o (by omega), fun k hk => ftS_k (by omega)⟩
theorem WF.flt (h : WF σ) : WF (ftS σ f a) := by
  obtain ⟨a1, a2, a3, a4, a5, a6, a7, a8, a9, a10, a11, a12, a13, a14⟩ := h
  unfold WF
  rw [show ftS σ f a 0 1 = 4 from rfl, show ftS σ f a 0 4 = 0 from rfl, ftS_o (show (1 : Nat) ≠ 0 by decide), ftS_o (show (2 : Nat) ≠ 0 by decide), ftS_o (show (3 : Nat) ≠ 0 by decide), ftS_o (show (4 : Nat) ≠ 0 by decide), ftS_o (show (8 : Nat) ≠ 0 by decide)]
  rw [ftS_k (k := 0) (by omega), ftS_k (k := 5) (by omega), ftS_k (k := 6) (by omega), ftS_k (k := 7) (by omega), ftS_k (k := 8) (by omega), ftS_k (k := 9) (by omega), ftS_k (k := 10) (by omega), ftS_k (k := 11) (by omega), ftS_k (k := 12) (by omega), ftS_k (k := 15) (by omega)]
  exact ⟨a1, a2, a3, a4, a5, a6, a7, by decide, by decide, a10, a11, a12, a13, a14⟩
theorem FC.flt (hbb : nb = 43 ∨ nb = 5) (h : FC σ nb mi ml) (g8 : mi' 1 8 = mi 1 8) (g9 : mi' 1 9 = nI 4) (g10 : mi' 1 10 = nI f) (g11 : mi' 1 11 = nI a) (g2 : mi' 2 1 = nI 0) (g : ∀ z, (11 ≤ z ∧ z ≤ 16) ∨ (39 ≤ z ∧ z ≤ 42) ∨ (nb ≤ z ∧ z ≤ nb + 4) → mi' z = mi z) : FC (ftS σ f a) nb mi' ml := by
  obtain ⟨⟨hW, ⟨a1, a2, a3, a4, a5, a6, a7, a8, a9, a10, a11⟩, hB⟩, hL, hl, hN, hA, hR⟩ := h
  have S := ftS_s (σ := σ) (f := f) (a := a)
  refine ⟨⟨hW.flt, ⟨?_, ?_, ?_, fun e => ?_, ?_, fun k hk => ?_, ?_, ?_, ?_, ?_, ?_⟩, fun hr => ?_⟩, fun i hi => ?_, fun i hi => ?_, S.e_RCn hN (g 14 (by omega)) (g 15 (by omega)) rfl rfl, fun i hi => ?_, fun i hi => ?_⟩
  · rw [g8, a1, ftS_k (by omega)]
  · rw [g9]; rfl
  · rw [g10]; rfl
  · rw [g11]; rfl
  · rw [g2]; rfl
  · have hk : (k : Int) < 0 := hk
    omega
  · rw [g 11 (by omega), a7, ftS_k (by omega)]
  · rw [g 11 (by omega), a8, ftS_k (by omega)]
  · rw [g 11 (by omega), a9, ftS_k (by omega)]
  · rw [g 11 (by omega), a10, ftS_k (by omega)]
  · rw [g 39 (by omega), a11, ftS_k (by omega)]
  · rw [ftS_k (by omega)] at hr
    obtain ⟨q0, q1, q2, q3, q4, q5, q6, q7, q8, q9, q10, q11⟩ := hB hr
    exact S.e_RCb ⟨by rw [g nb (by omega)]; exact q0, by rw [g nb (by omega)]; exact q1, by rw [g nb (by omega)]; exact q2, by rw [g nb (by omega)]; exact q3, by rw [g nb (by omega)]; exact q4, by rw [g nb (by omega)]; exact q5, by rw [g nb (by omega)]; exact q6, by rw [g nb (by omega)]; exact q7, fun i hi => by rw [g (nb + 1) (by omega)]; exact q8 i hi, fun i hi => by rw [g (nb + 2) (by omega)]; exact q9 i hi, fun i hi => by rw [g (nb + 3) (by omega)]; exact q10 i hi, fun i hi => by rw [g (nb + 4) (by omega)]; exact q11 i hi⟩
  · rw [ftS_k (by omega)] at hi
    rw [ftS_o (show (5 : Nat) ≠ 0 by decide), ftS_o (show (6 : Nat) ≠ 0 by decide)]; exact hL i hi
  · rw [ftS_k (by omega)] at hi
    rw [g 12 (by omega), g 13 (by omega), ftS_o (show (5 : Nat) ≠ 0 by decide), ftS_o (show (6 : Nat) ≠ 0 by decide)]; exact hl i hi
  · rw [ftS_k (by omega)] at hi
    rw [ftS_o (show (9 : Nat) ≠ 0 by decide), ftS_o (show (10 : Nat) ≠ 0 by decide), ftS_o (show (11 : Nat) ≠ 0 by decide), ftS_k (k := 5) (by omega)]; exact hA i hi
  · rw [ftS_k (by omega)] at hi
    rw [g 40 (by omega), g 41 (by omega), g 42 (by omega), ftS_o (show (9 : Nat) ≠ 0 by decide), ftS_o (show (10 : Nat) ≠ 0 by decide), ftS_o (show (11 : Nat) ≠ 0 by decide)]; exact hR i hi
theorem FR.flt (h : FR σ mj) (g1 : mj' 48 1 = nI 4) (g2 : mj' 48 2 = nI a) (g32 : mj' 48 32 = nI 0) (g38 : mj' 48 38 = nI f) (gk : ∀ k, (5 ≤ k ∧ k ≤ 9) ∨ k = 26 ∨ k = 30 ∨ (43 ≤ k ∧ k ≤ 46) → mj' 48 k = mj 48 k) (g : ∀ z, z = 49 ∨ z = 50 ∨ z = 51 ∨ z = 54 ∨ z = 56 ∨ (58 ≤ z ∧ z ≤ 60) → mj' z = mj z) : FR (ftS σ f a) mj' := by
  obtain ⟨⟨hW, ⟨a1, a2, a3, a4, a5, a6, a7, a8, a9, a10, a11, a12, a13, a14, a15⟩, hB⟩, hl, hN, hP⟩ := h
  have S := ftS_s (σ := σ) (f := f) (a := a)
  refine ⟨⟨hW.flt, ⟨?_, ?_, ?_, ?_, ?_, ?_, ?_, ?_, ?_, ?_, ?_, ?_, fun k hk => ?_, fun e => ?_, ?_⟩, S.e_RMb (hB.eq (fun q hq => g q (by omega)))⟩, fun i hi => ?_, S.e_RMn hN (g 60 (by omega)), S.e_RMp (ftS_k (by omega)) (ftS_o (by decide)) (ftS_o (by decide)) (ftS_o (by decide)) hP (g 56 (by omega))⟩
  · rw [g1]; rfl
  · rw [g2, if_pos (show ftS σ f a 0 1 = 4 from rfl)]; rfl
  · rw [gk 5 (by omega), a3, ftS_k (by omega)]
  · rw [gk 9 (by omega), a4, ftS_k (by omega)]
  · rw [gk 26 (by omega), a5, ftS_k (by omega)]
  · rw [gk 30 (by omega), a6, ftS_k (by omega)]
  · rw [g32]; rfl
  · rw [g38]; rfl
  · rw [gk 43 (by omega), a9, ftS_k (by omega)]
  · rw [gk 44 (by omega), a10, ftS_k (by omega)]
  · rw [gk 45 (by omega), a11, ftS_k (by omega)]
  · rw [gk 46 (by omega), a12, ftS_k (by omega)]
  · have hk : (k : Int) < 0 := hk
    omega
  · rw [ftS_k (by omega)] at e
    obtain ⟨b1, b2, b3⟩ := a14 e
    exact ⟨by rw [gk 6 (by omega), b1, ftS_k (by omega)], by rw [gk 7 (by omega), b2, ftS_k (by omega)], by rw [gk 8 (by omega), b3, ftS_k (by omega)]⟩
  · rw [g 54 (by omega), a15, ftS_k (by omega)]
  · rw [ftS_k (by omega)] at hi
    rw [g 58 (by omega), g 59 (by omega), ftS_k (k := 11) (by omega), ftS_o (show (5 : Nat) ≠ 0 by decide), ftS_o (show (6 : Nat) ≠ 0 by decide)]; exact hl i hi
/-- a new bench -/
theorem FC.new (hW : WF σ) (hr : σ 0 0 = 1) (z : σ 0 1 = 0 ∧ σ 0 2 = 0 ∧ σ 0 4 = 0 ∧ σ 0 11 = 0 ∧ σ 0 12 = 0 ∧ σ 0 13 = 0 ∧ σ 0 14 = 0 ∧ σ 0 15 = 0) (B : RCb σ nb mi) (g8 : mi 1 8 = nI 1) (g9 : mi 1 9 = nI 0) (g10 : mi 1 10 = nI 0) (g2 : mi 2 1 = nI 0) (g0 : mi 11 0 = nI 0) (g1 : mi 11 1 = nI 0) (gl : mi 11 2 = nI 0) (gs : mi 11 3 = nI 0) (g39 : mi 39 0 = nI 0) : FC σ nb mi ml := by
  obtain ⟨z1, z2, z4, z11, z12, z13, z14, z15⟩ := z
  refine ⟨⟨hW, ⟨?_, ?_, ?_, fun e => ?_, ?_, fun k hk => ?_, ?_, ?_, ?_, ?_, ?_⟩, fun _ => B⟩, fun i hi => ?_, fun i hi => ?_, fun e => ?_, fun i hi => ?_, fun i hi => ?_⟩
  · rw [g8, hr]; rfl
  · rw [g9, z1]; rfl
  · rw [g10, z2]; rfl
  · rw [z1] at e; exact absurd e (by decide)
  · rw [g2, z4]; rfl
  · rw [z4] at hk; omega
  · rw [g0, z13]; rfl
  · rw [g1, z14]; rfl
  · rw [gl, z11]; rfl
  · rw [gs, z12]; rfl
  · rw [g39, z15]; rfl
  · rw [z11] at hi; omega
  · rw [z11] at hi; omega
  · rw [z12] at e; exact absurd e (by decide)
  · rw [z15] at hi; omega
  · rw [z15] at hi; omega
theorem FR.new (hW : WF σ) (hr : σ 0 0 = 1) (z : σ 0 1 = 0 ∧ σ 0 2 = 0 ∧ σ 0 4 = 0 ∧ σ 0 11 = 0 ∧ σ 0 12 = 0 ∧ σ 0 13 = 0 ∧ σ 0 14 = 0 ∧ σ 0 15 = 0) (B : RMb σ mj) (g1 : mj 48 1 = nI 0) (g2 : mj 48 2 = -(nI 1)) (g5 : mj 48 5 = zI (σ 0 5)) (g6 : mj 48 6 = zI (σ 0 6)) (g7 : mj 48 7 = zI (σ 0 7)) (g8 : mj 48 8 = zI (σ 0 8)) (g9 : mj 48 9 = zI (σ 0 9)) (g26 : mj 48 26 = nI 1) (g30 : mj 48 30 = nI 0) (g32 : mj 48 32 = nI 0) (g38 : mj 48 38 = nI 0) (g43 : mj 48 43 = nI 0) (g44 : mj 48 44 = nI 0) (g45 : mj 48 45 = nI 0) (g46 : mj 48 46 = nI 0) (g54 : mj 54 62 = zI (σ 0 10)) : FR σ mj := by
  obtain ⟨z1, z2, z4, z11, z12, z13, z14, z15⟩ := z
  refine ⟨⟨hW, ⟨?_, ?_, g5, g9, ?_, ?_, ?_, ?_, ?_, ?_, ?_, ?_, fun k hk => ?_, fun e => ⟨g6, g7, g8⟩, g54⟩, B⟩, fun i hi => ?_, fun e => ?_, fun d d0 hd => ?_⟩
  · rw [g1, z1]; rfl
  · rw [g2, z1, if_neg (by decide)]; rfl
  · rw [g26, hr]; rfl
  · rw [g30, z15]; rfl
  · rw [g32, z4]; rfl
  · rw [g38, z2]; rfl
  · rw [g43, z11]; rfl
  · rw [g44, z13]; rfl
  · rw [g45, z14]; rfl
  · rw [g46, z12]; rfl
  · rw [z4] at hk; omega
  · rw [z11] at hi; omega
  · rw [z12] at e; exact absurd e (by decide)
  · rw [z15] at hd; omega
end
