/-! ===== loops; the monitor; what comes through ===== -/
theorem upto {P : Nat → Prop} {n : Nat} (h0 : P n) (hs : ∀ j, j < n → P (j + 1) → P j) : ∀ j, j ≤ n → P j := by
  have : ∀ d j, j + d = n → P j := by
    intro d
    induction d with
    | zero => intro j hj; have : j = n := hj; rw [this]; exact h0
    | succ d ih => intro j hj; exact hs j (by omega) (ih (j + 1) (by omega))
  intro j hj
  exact this (n - j) j (by omega)
theorem nI_leN {a b : Nat} (ha : a < 2 ^ 31) (hb : b < 2 ^ 31) : nI a ≤ nI b ↔ a ≤ b := nI_leI ha hb
theorem lp_d {x i : Int32} {n : Nat} (hx : x = nI n) (hi : i = nI n) : x ≤ i := by rw [hx, hi]; exact Int32.le_refl _
theorem lp_g {x i : Int32} {n j : Nat} (hx : x = nI n) (hi : i = nI j) (h : j < n) (hn : n < 2 ^ 31) : ¬ x ≤ i := by
  rw [hx, hi, nI_leN hn (by omega)]; omega
theorem ixn {i : Int32} {j N : Nat} (hi : i = nI j) (h : j < N) (hN : N < 2 ^ 31) : vp_in i N := by rw [hi]; exact vp_in_nI h hN
theorem cln {i : Int32} {j : Nat} (hi : i = nI j) (h : j < 2 ^ 31) : i.toNatClampNeg = j := by rw [hi]; exact nI_clamp h
theorem inc {i : Int32} {j : Nat} (hi : i = nI j) : i + nI 1 = nI (j + 1) := by rw [hi, nI_add]
theorem RCb.n {σ : SG} {nb : Nat} {mi : MI} (h : RCb σ nb mi) {n : Nat} (hn : σ 0 5 = n) : mi nb 0 = nI n := by rw [h.1, hn]; rfl
theorem RCb.pl {σ : SG} {nb : Nat} {mi : MI} (h : RCb σ nb mi) {j : Nat} (hj : (j : Int) < σ 0 5) : mi (nb + 1) j = nI (plN (σ 0 6).toNat (σ 0 5).toNat j) := h.2.2.2.2.2.2.2.2.1 j hj
theorem RCb.li {σ : SG} {nb : Nat} {mi : MI} (h : RCb σ nb mi) {j : Nat} (hj : (j : Int) < σ 0 5) : mi (nb + 2) j = zI (σ 1 j) := h.2.2.2.2.2.2.2.2.2.1 j hj
theorem RCb.no {σ : SG} {nb : Nat} {mi : MI} (h : RCb σ nb mi) {j : Nat} (hj : (j : Int) < σ 0 5) : mi (nb + 3) j = zI (σ 3 j) := h.2.2.2.2.2.2.2.2.2.2.1 j hj
theorem RCb.mk {σ : SG} {nb : Nat} {mi : MI} (h : RCb σ nb mi) {j : Nat} (hj : (j : Int) < σ 0 9) : mi (nb + 4) j = zI (σ 4 j) := h.2.2.2.2.2.2.2.2.2.2.2 j hj
theorem RMs.n {σ : SG} {mi : MI} (h : RMs σ mi) {n : Nat} (hn : σ 0 5 = n) : mi 48 5 = nI n := by rw [h.2.2.1, hn]; rfl
theorem RMs.rd {σ : SG} {mi : MI} (h : RMs σ mi) : mi 48 26 = zI (σ 0 0) := h.2.2.2.2.1
theorem RMs.lo {σ : SG} {mi : MI} (h : RMs σ mi) : mi 54 62 = zI (σ 0 10) := h.2.2.2.2.2.2.2.2.2.2.2.2.2.2
theorem RCb.w {σ : SG} {nb : Nat} {mi : MI} (hb : nb = 43 ∨ nb = 5) (h : RCb σ nb mi) (x : Int32) : RCb σ nb (u2 mi 1 9 x) := by
  rcases hb with rfl | rfl <;> exact h
theorem hbb_of {nb db : Nat} (hb : nb = 43 ∧ db = 5 ∨ nb = 5 ∧ db = 43) : nb = 43 ∨ nb = 5 := by omega
/-- all lights -/
def mon (σ : SG) : Int := sumZ (σ 1) (σ 0 5).toNat
theorem sumZ_bd {f : Nat → Int} {M : Int} (h : ∀ j, 0 ≤ f j ∧ f j ≤ M) : ∀ n : Nat, 0 ≤ sumZ f n ∧ sumZ f n ≤ n * M
  | 0 => by simp [sumZ]
  | n + 1 => by
    have ih := sumZ_bd h n
    have := h n
    show 0 ≤ sumZ f n + f n ∧ sumZ f n + f n ≤ ((n + 1 : Nat) : Int) * M
    rw [Int.natCast_add, Int.add_mul]
    omega
theorem WF.lights {σ : SG} (h : WF σ) (j : Nat) : 0 ≤ σ 1 j ∧ σ 1 j ≤ 9999 := h.2.2.2.2.2.2.2.2.2.1 j
theorem mon_bd {σ : SG} (hW : WF σ) : 0 ≤ mon σ ∧ mon σ ≤ 309969 := by
  obtain ⟨n, hn, h31⟩ := wf_n hW
  have := sumZ_bd hW.lights (σ 0 5).toNat
  unfold mon
  omega
theorem mon_n {σ : SG} {n : Nat} (hn : σ 0 5 = n) : mon σ = sumZ (σ 1) n := by unfold mon; rw [hn]; rfl
section
variable {nb db b : Nat} {by_ rs : RX} {c : Nat} {σ : SG} {mi : MI} {ml : ML}
theorem R_monitor (hbb : b = 43 ∨ b = 5) (hW : WF σ) (hB : RCb σ b mi) : Ret m_bn_monitor [vR 13 0 b] (some (vI (zI (mon σ)))) c (MRc nb db by_ rs) mi ml mi ml := by
  obtain ⟨n, hn, h31⟩ := wf_n hW
  have h0 := hB.n hn
  rw [mon_n hn]
  refine g_bn_monitor_0 hbb ?_
  have key : ∀ j, j ≤ n → ∀ i a, i = nI j → a = zI (sumZ (σ 1) j) → Go m_bn_monitor 4 [some (vR 13 0 b), some (vI a), some (vI i)] [] (some (vI (zI (sumZ (σ 1) n)))) c (MRc nb db by_ rs) mi ml mi ml := by
    refine upto ?_ ?_
    · intro i a hi ha
      exact g_bn_monitor_4 hbb ⟨fun _ => ⟨by rw [ha], rfl, rfl⟩, fun h => absurd (lp_d h0 hi) h⟩
    · intro j hj ih i a hi ha
      refine g_bn_monitor_4 hbb ⟨fun h => absurd h (lp_g h0 hi hj (by omega)), fun _ => ⟨ixn hi (by omega) (by decide), ih _ _ (inc hi) ?_⟩⟩
      rw [cln hi (by omega), hB.li (by omega), ha, zI_add]; rfl
  exact key 0 (by omega) _ _ rfl rfl
theorem R_rmonitor (hW : WF σ) (hs : RMs σ mi) (hB : RMb σ mi) : Ret m_r_monitor [vR 19 0 48] (some (vI (zI (mon σ)))) c (MRc nb db by_ rs) mi ml mi ml := by
  obtain ⟨n, hn, h31⟩ := wf_n hW
  have h0 := hs.n hn
  rw [mon_n hn]
  refine g_r_monitor_0 ?_
  have key : ∀ j, j ≤ n → ∀ i a, i = nI j → a = zI (sumZ (σ 1) j) → Go m_r_monitor 4 [some (vR 19 0 48), some (vI a), some (vI i)] [] (some (vI (zI (sumZ (σ 1) n)))) c (MRc nb db by_ rs) mi ml mi ml := by
    refine upto ?_ ?_
    · intro i a hi ha
      exact g_r_monitor_4 ⟨fun _ => ⟨by rw [ha], rfl, rfl⟩, fun h => absurd (lp_d h0 hi) h⟩
    · intro j hj ih i a hi ha
      refine g_r_monitor_4 ⟨fun h => absurd h (lp_g h0 hi hj (by omega)), fun _ => ⟨ixn hi (by omega) (by decide), ih _ _ (inc hi) ?_⟩⟩
      rw [cln hi (by omega), hB.2.1 j (by omega), ha, zI_add]; rfl
  exact key 0 (by omega) _ _ rfl rfl
end
/-! what comes through a set -/
def thF (σ : SG) (set : Nat) (j : Nat) : Int := if σ 2 j = 1 ∨ (bt set j = 1 ∧ σ 2 j ≠ 2) then σ 1 j else 0
def thr (σ : SG) (set : Nat) : Int := sumZ (thF σ set) (σ 0 5).toNat
theorem thr_n {σ : SG} {n : Nat} (hn : σ 0 5 = n) (set : Nat) : thr σ set = sumZ (thF σ set) n := by unfold thr; rw [hn]; rfl
theorem thF_bd {σ : SG} (hW : WF σ) (set j : Nat) : 0 ≤ thF σ set j ∧ thF σ set j ≤ 9999 := by
  unfold thF
  have := hW.lights j
  split <;> omega
theorem thr_bd {σ : SG} (hW : WF σ) (set : Nat) : 0 ≤ thr σ set ∧ thr σ set ≤ 309969 := by
  obtain ⟨n, hn, h31⟩ := wf_n hW
  have := sumZ_bd (thF_bd hW set) (σ 0 5).toNat
  unfold thr
  omega
theorem bt_tb (b i : Nat) : bt b i = if b.testBit i = true then 1 else 0 := by
  unfold bt
  rw [Nat.testBit_eq_decide_div_mod_eq]
  by_cases h : b / 2 ^ i % 2 = 1
  · simp [h]
  · simp [h]; omega
theorem thr_bits {σ : SG} (hW : WF σ) {set : Nat} (hset : set < 2 ^ 31) : ∃ t : Nat, t < 2 ^ 31 ∧ (nI set &&& (nI (shB σ) ^^^ -(nI 1))) ||| nI (opB σ) = nI t ∧ ∀ j : Nat, (j : Int) < σ 0 5 → bt t j = if σ 2 j = 1 ∨ (bt set j = 1 ∧ σ 2 j ≠ 2) then 1 else 0 := by
  obtain ⟨n, hn, h31⟩ := wf_n hW
  refine ⟨(set &&& (shB σ ^^^ (2 ^ 32 - 1))) ||| opB σ, ?_, ?_, fun j hj => ?_⟩
  · exact Nat.or_lt_two_pow (Nat.lt_of_le_of_lt Nat.and_le_left hset) (op_lt hW)
  · rw [show -(nI 1) = nI (2 ^ 32 - 1) from by decide, nI_xor, nI_and, nI_or]
  · have hz := hW.shut j
    have ho : (opB σ).testBit j = (σ 2 j == 1) := by
      rw [Nat.testBit_eq_decide_div_mod_eq]
      unfold opB
      rw [bitsOf_at _ _ (show j < (σ 0 5).toNat by omega)]
      cases h : (σ 2 j == 1) <;> simp
    have hs : (shB σ).testBit j = (σ 2 j == 2) := by
      rw [Nat.testBit_eq_decide_div_mod_eq]
      unfold shB
      rw [bitsOf_at _ _ (show j < (σ 0 5).toNat by omega)]
      cases h : (σ 2 j == 2) <;> simp
    rw [bt_tb, bt_tb, Nat.testBit_or, Nat.testBit_and, Nat.testBit_xor, Nat.testBit_two_pow_sub_one, ho, hs]
    have hj32 : j < 32 := by omega
    rcases hz with z | z | z <;> rw [z] <;> cases set.testBit j <;> simp [hj32]
theorem bit_i {b j : Nat} {x i : Int32} (hx : x = nI b) (hi : i = nI j) (hb : b < 2 ^ 31) (hj : j < 32) : (x >>> (i &&& 31)) &&& nI 1 = nI (bt b j) := by
  rw [hx, hi]; exact bit_at hb hj
theorem nI_01 {k : Nat} (h : k = 0 ∨ k = 1) : nI k = nI 1 ↔ k = 1 := by
  rcases h with rfl | rfl <;> decide
section
variable {nb db b : Nat} {by_ rs : RX} {c : Nat} {σ : SG} {mi : MI} {ml : ML}
theorem R_readOf (hbb : b = 43 ∨ b = 5) (hW : WF σ) (hB : RCb σ b mi) {set : Nat} (hset : set < 2 ^ 31) {x : Int32} (hx : x = nI set) : Ret m_bn_readOf [vR 13 0 b, vI x] (some (vI (zI (σ 0 7 + thr σ set)))) c (MRc nb db by_ rs) mi ml mi ml := by
  obtain ⟨n, hn, h31⟩ := wf_n hW
  have h0 := hB.n hn
  obtain ⟨t, ht, et, hbt⟩ := thr_bits hW hset
  have h5 : mi b 5 = nI (opB σ) := hB.2.2.2.2.2.1
  have h6 : mi b 6 = nI (shB σ) := hB.2.2.2.2.2.2.1
  have h2 : mi b 2 = zI (σ 0 7) := hB.2.2.1
  rw [thr_n hn]
  refine g_bn_readOf_0 hbb ?_
  have key : ∀ j, j ≤ n → ∀ i a u, i = nI j → a = zI (σ 0 7 + sumZ (thF σ set) j) → u = nI t → Go m_bn_readOf 22 [some (vR 13 0 b), some (vI x), some (vI u), some (vI a), some (vI i)] [] (some (vI (zI (σ 0 7 + sumZ (thF σ set) n)))) c (MRc nb db by_ rs) mi ml mi ml := by
    refine upto ?_ ?_
    · intro i a u hi ha hu
      exact g_bn_readOf_22 hbb ⟨fun _ => ⟨by rw [ha], rfl, rfl⟩, fun h => absurd (lp_d h0 hi) h⟩
    · intro j hj ih i a u hi ha hu
      have e := bit_i hu hi ht (by omega)
      rw [hbt j (by omega)] at e
      refine g_bn_readOf_22 hbb ⟨fun h => absurd h (lp_g h0 hi hj (by omega)), fun _ => ⟨fun g => ih _ _ _ (inc hi) ?_ hu, fun g => ⟨ixn hi (by omega) (by decide), ih _ _ _ (inc hi) ?_ hu⟩⟩⟩
      · have hc : ¬ (σ 2 j = 1 ∨ (bt set j = 1 ∧ σ 2 j ≠ 2)) := fun hc => g (by rw [e, if_pos hc])
        rw [ha]
        show _ = zI (σ 0 7 + (sumZ (thF σ set) j + thF σ set j))
        rw [show thF σ set j = 0 from if_neg hc, Int.add_zero]
      · have hc : (σ 2 j = 1 ∨ (bt set j = 1 ∧ σ 2 j ≠ 2)) := Classical.byContradiction fun hc => by
          rw [e, if_neg hc] at g
          exact absurd g (by decide)
        rw [ha, cln hi (by omega), hB.li (by omega), zI_add]
        show _ = zI (σ 0 7 + (sumZ (thF σ set) j + thF σ set j))
        rw [show thF σ set j = σ 1 j from if_pos hc, Int.add_assoc]
  refine key 0 (by omega) _ _ _ rfl ?_ ?_
  · rw [h2]; show _ = zI (σ 0 7 + 0); rw [Int.add_zero]
  · rw [hx, h6, h5, et]
theorem R_has {u v : Int32} {b i : Nat} (hu : u = nI b) (hv : v = nI i) (hb : b < 2 ^ 31) (hi : i < 32) : Ret m_r_has [vI u, vI v] (some (vI (nI (bt b i)))) c (MRc nb db by_ rs) mi ml mi ml := by
  have e := bit_i hu hv hb hi
  refine g_r_has_0 ⟨fun g => ⟨?_, rfl, rfl⟩, fun g => ⟨?_, rfl, rfl⟩⟩
  · rw [e] at g
    rcases bt_01 b i with z | z
    · rw [z]
    · rw [z] at g; exact absurd rfl g
  · rw [e, nI_01 (bt_01 b i)] at g
    rw [g]
theorem R_through (hW : WF σ) (hs : RMs σ mi) (hB : RMb σ mi) {set : Nat} (hset : set < 2 ^ 31) {x : Int32} (hx : x = nI set) : Ret m_r_through [vR 19 0 48, vI x] (some (vI (zI (thr σ set)))) c (MRc nb db by_ rs) mi ml mi ml := by
  obtain ⟨n, hn, h31⟩ := wf_n hW
  have h0 := hs.n hn
  rw [thr_n hn]
  refine g_r_through_0 ?_
  have key : ∀ j, j ≤ n → ∀ i a, i = nI j → a = zI (sumZ (thF σ set) j) → Go m_r_through 4 [some (vR 19 0 48), some (vI x), some (vI a), some (vI i), none] [] (some (vI (zI (sumZ (thF σ set) n)))) c (MRc nb db by_ rs) mi ml mi ml := by
    refine upto ?_ ?_
    · intro i a hi ha
      exact g_r_through_4 ⟨fun _ => ⟨by rw [ha], rfl, rfl⟩, fun h => absurd (lp_d h0 hi) h⟩
    · intro j hj ih i a hi ha
      have e31 : nI 31 + i = nI (31 + j) := by rw [hi, nI_add]
      have ev : mi 54 (nI 31 + i).toNatClampNeg = zI (σ 2 j) := by rw [cln e31 (by omega)]; exact hB.2.2.1 j (by omega)
      have yes : σ 2 j = 1 ∨ (bt set j = 1 ∧ σ 2 j ≠ 2) → a + mi 54 i.toNatClampNeg = zI (sumZ (thF σ set) (j + 1)) := by
        intro hc
        rw [ha, cln hi (by omega), hB.2.1 j (by omega), zI_add]
        show _ = zI (sumZ (thF σ set) j + thF σ set j)
        rw [show thF σ set j = σ 1 j from if_pos hc]
      have no : ¬ (σ 2 j = 1 ∨ (bt set j = 1 ∧ σ 2 j ≠ 2)) → a = zI (sumZ (thF σ set) (j + 1)) := by
        intro hc
        rw [ha]
        show _ = zI (sumZ (thF σ set) j + thF σ set j)
        rw [show thF σ set j = 0 from if_neg hc, Int.add_zero]
      have r1 : zI (σ 2 j) = nI 1 ↔ σ 2 j = 1 := by
        rcases hW.shut j with z | z | z <;> rw [z] <;> decide
      have r2 : zI (σ 2 j) = nI 2 ↔ σ 2 j = 2 := by
        rcases hW.shut j with z | z | z <;> rw [z] <;> decide
      refine g_r_through_4 ⟨fun h => absurd h (lp_g h0 hi hj (by omega)), fun _ => ⟨ixn e31 (by omega) (by decide), fun g => ⟨ixn hi (by omega) (by decide), ih _ _ (inc hi) (yes ?_)⟩, fun g => ⟨_, R_has hx hi hset (by omega), fun g2 => ih _ _ (inc hi) (no ?_), fun g2 => ⟨fun g3 => ih _ _ (inc hi) (no ?_), fun g3 => ⟨ixn hi (by omega) (by decide), ih _ _ (inc hi) (yes ?_)⟩⟩⟩⟩⟩
      · rw [ev, r1] at g; exact Or.inl g
      · rw [ev, r1] at g
        have : bt set j = 0 := by
          rcases bt_01 set j with z | z
          · exact z
          · rw [z] at g2; exact absurd g2 (by decide)
        omega
      · rw [ev, r2] at g3; omega
      · rw [ev, r2] at g3
        have : bt set j = 1 := by
          rcases bt_01 set j with z | z
          · rw [z] at g2; exact absurd rfl g2
          · exact z
        exact Or.inr ⟨this, g3⟩
  exact key 0 (by omega) _ _ rfl rfl
theorem R_bitCount {n : Nat} (h : n < 2 ^ 32) {x : Int32} (hx : x = nI n) {mr : MR} : Ret m_ji_bitCount [vI x] (some (vI (nI (pcN 32 n)))) c mr mi ml mi ml := by
  rw [hx]; exact fun Q hQ => k_bitCount h hQ
theorem R_many {n : Nat} (h : n < 2 ^ 32) {x : Int32} (hx : x = nI n) {mr : MR} : Ret m_r_many [vI x] (some (vI (nI (pcN 32 n)))) c mr mi ml mi ml := by
  rw [hx]; exact fun Q hQ => k_many h hQ
/-- how many plates are lost -/
def los (σ : SG) : Nat := pcN 32 (loB σ)
theorem R_lostCount (hbb : b = 43 ∨ b = 5) (hW : WF σ) (hB : RCb σ b mi) : Ret m_bn_lostCount [vR 13 0 b] (some (vI (nI (los σ)))) c (MRc nb db by_ rs) mi ml mi ml := by
  have e : mi b 7 = nI (loB σ) := by rw [hB.2.2.2.2.2.2.2.1, lo_nI hW]
  exact g_bn_lostCount_0 hbb ⟨_, R_bitCount (Nat.lt_trans (lo_lt hW) (by decide)) e, rfl, rfl, rfl⟩
theorem R_losses (hW : WF σ) (hs : RMs σ mi) : Ret m_r_losses [vR 19 0 48] (some (vI (nI (los σ)))) c (MRc nb db by_ rs) mi ml mi ml := by
  have e : mi 54 62 = nI (loB σ) := by rw [hs.lo, lo_nI hW]
  exact g_r_losses_0 ⟨_, R_many (Nat.lt_trans (lo_lt hW) (by decide)) e, rfl, rfl, rfl⟩
end
