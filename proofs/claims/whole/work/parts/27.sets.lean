/-! ===== sets; which, odd, apart, common, sign, logged, about, size ===== -/
/-- a set of colours that there are -/
def InS (σ : SG) (x : Int32) : Prop := 0 ≤ x.toInt ∧ x.toInt < 2 ^ (σ 0 5).toNat
theorem p2Z (n : Nat) : ((2 : Int) ^ n) = ((2 ^ n : Nat) : Int) := by norm_cast
theorem InS.nat {σ : SG} {x : Int32} (h : InS σ x) : ∃ b : Nat, x = nI b ∧ b < 2 ^ (σ 0 5).toNat := by
  obtain ⟨h1, h2⟩ := h
  rw [p2Z] at h2
  refine ⟨x.toInt.toNat, ?_, by omega⟩
  rw [nI_z, show ((x.toInt.toNat : Nat) : Int) = x.toInt by omega]
  exact zI_of x
theorem InS_nI {σ : SG} {b : Nat} (hb : b < 2 ^ 31) : InS σ (nI b) ↔ b < 2 ^ (σ 0 5).toNat := by
  unfold InS
  rw [nI_toInt hb, p2Z]
  omega
theorem InS_neg {σ : SG} {x : Int32} (h : x < 0) : ¬ InS σ x := by
  rw [Int32.lt_iff_toInt_lt] at h
  intro z
  have := z.1
  simp at h
  omega
theorem usr_n {x y : Int32} {n k : Nat} (hx : x = nI n) (hy : y = nI k) (hn : n < 2 ^ 32) (hk : k < 32) : usr x y = nI (n / 2 ^ k) := by
  rw [hx, hy]; exact jus_n hn hk
theorem shl_n {x y : Int32} {n k : Nat} (hx : x = nI n) (hy : y = nI k) (hk : k < 32) (hn : n * 2 ^ k < 2 ^ 32) : x <<< (y &&& 31) = nI (n * 2 ^ k) := by
  rw [hx, hy, pk_shlN (n := n) (nI k &&& 31) k (sh_am k hk) hn]
theorem pl_lt (kd N i : Nat) (h : N ≤ 31) : plN kd N i < 2 ^ 31 := Nat.lt_of_lt_of_le (bitsOf_lt _ _) (p31 h)
section
variable {nb db : Nat} {by_ rs : RX} {c : Nat} {σ : SG} {mi mj : MI} {ml mk : ML} {x j : Int32}
theorem rd1 (I : RCs σ mi) (h : σ 0 0 = 1) : ¬ mi 1 8 = 0 := by rw [I.1, h]; decide
theorem rd0 (I : RCs σ mi) (h : ¬ σ 0 0 = 1) (hW : WF σ) : mi 1 8 = 0 := by
  rcases rd_01 hW with z | z
  · rw [I.1, z]; rfl
  · exact absurd z h
theorem rf1 (I : RMs σ mj) (h : σ 0 0 = 1) : ¬ mj 48 26 = 0 := by rw [I.rd, h]; decide
theorem rf0 (I : RMs σ mj) (h : ¬ σ 0 0 = 1) (hW : WF σ) : mj 48 26 = 0 := by
  rcases rd_01 hW with z | z
  · rw [I.rd, z]; rfl
  · exact absurd z h
theorem R_set0 (hb : nb = 43 ∧ db = 5 ∨ nb = 5 ∧ db = 43) (I : IC σ nb mi) (h : ¬ σ 0 0 = 1) : Ret m_w_haveSet [vR 10 0 1, vI x] (some (vI (nI 0))) c (MRc nb db by_ rs) mi ml (u2 mi 1 9 (nI 1)) ml :=
  g_w_haveSet_0 hb ⟨fun _ => ⟨rfl, rfl, rfl⟩, fun g => absurd (rd0 I.2.1 h I.1) g⟩
theorem R_set1 (hb : nb = 43 ∧ db = 5 ∨ nb = 5 ∧ db = 43) (I : IC σ nb mi) (h : σ 0 0 = 1) (hs : ¬ InS σ x) : Ret m_w_haveSet [vR 10 0 1, vI x] (some (vI (nI 0))) c (MRc nb db by_ rs) mi ml (u2 mi 1 9 (nI 2)) ml := by
  obtain ⟨n, hn, h31⟩ := wf_n I.1
  refine g_w_haveSet_0 hb ⟨fun g => absurd g (rd1 I.2.1 h), fun _ => ⟨fun _ => ⟨rfl, (u2_u2 _ _ _ _ _).symm, rfl⟩, fun g => ⟨fun _ => ⟨rfl, (u2_u2 _ _ _ _ _).symm, rfl⟩, fun g2 => ?_⟩⟩⟩
  obtain ⟨b, hb31, rfl⟩ := nI_of g
  rw [usr_n rfl ((I.2.2 h).n hn) (by omega) (by omega)] at g2
  have := nI_ne0' (Nat.lt_of_le_of_lt (Nat.div_le_self _ _) (by omega)) g2
  have := (Nat.div_eq_zero_iff_lt (Nat.two_pow_pos n)).mp this
  rw [InS_nI hb31, show (σ 0 5).toNat = n by omega] at hs
  exact absurd this hs
theorem R_set2 (hb : nb = 43 ∧ db = 5 ∨ nb = 5 ∧ db = 43) (I : IC σ nb mi) (h : σ 0 0 = 1) (hs : InS σ x) : Ret m_w_haveSet [vR 10 0 1, vI x] (some (vI (nI 1))) c (MRc nb db by_ rs) mi ml (u2 mi 1 9 (nI 0)) ml := by
  obtain ⟨n, hn, h31⟩ := wf_n I.1
  obtain ⟨b, rfl, hb2⟩ := hs.nat
  rw [show (σ 0 5).toNat = n by omega] at hb2
  have hb31 : b < 2 ^ 31 := Nat.lt_of_lt_of_le hb2 (p31 h31)
  refine g_w_haveSet_0 hb ⟨fun g => absurd g (rd1 I.2.1 h), fun _ => ⟨fun g => absurd hs (InS_neg g), fun g => ⟨fun g2 => absurd ?_ g2, fun g2 => ⟨rfl, (u2_u2 _ _ _ _ _).symm, rfl⟩⟩⟩⟩
  rw [usr_n rfl ((I.2.2 h).n hn) (by omega) (by omega), Nat.div_eq_of_lt hb2]; rfl
theorem R_isS1 (hW : WF σ) (hs : RMs σ mj) (h : ¬ InS σ x) : Ret m_r_isSet [vR 19 0 48, vI x] (some (vI (nI 0))) c (MRc nb db by_ rs) mj mk mj mk := by
  obtain ⟨n, hn, h31⟩ := wf_n hW
  have h5 := hs.n hn
  refine g_r_isSet_0 ⟨fun _ => ⟨rfl, rfl, rfl⟩, fun g => ?_⟩
  obtain ⟨b, hb31, rfl⟩ := nI_of g
  rw [InS_nI hb31, show (σ 0 5).toNat = n by omega] at h
  refine ⟨fun g2 => ?_, fun g2 => ⟨fun _ => ⟨rfl, rfl, rfl⟩, fun g3 => ?_⟩⟩
  · rw [h5, nI_eq (by omega) (by decide)] at g2
    rw [g2] at h; exact absurd hb31 h
  · rw [h5, nI_eq (by omega) (by decide)] at g2
    have hp : 2 ^ n ≤ 2 ^ 30 := Nat.pow_le_pow_right (by decide) (by omega)
    rw [shl_n rfl h5 (by omega) (by omega), Nat.one_mul, nI_leN (by omega) hb31] at g3
    omega
theorem R_isS2 (hW : WF σ) (hs : RMs σ mj) (h : InS σ x) : Ret m_r_isSet [vR 19 0 48, vI x] (some (vI (nI 1))) c (MRc nb db by_ rs) mj mk mj mk := by
  obtain ⟨n, hn, h31⟩ := wf_n hW
  have h5 := hs.n hn
  refine g_r_isSet_0 ⟨fun g => absurd h (InS_neg g), fun g => ?_⟩
  obtain ⟨b, hb31, rfl⟩ := nI_of g
  rw [InS_nI hb31, show (σ 0 5).toNat = n by omega] at h
  refine ⟨fun g2 => ⟨rfl, rfl, rfl⟩, fun g2 => ⟨fun g3 => ?_, fun _ => ⟨rfl, rfl, rfl⟩⟩⟩
  rw [h5, nI_eq (by omega) (by decide)] at g2
  have hp : 2 ^ n ≤ 2 ^ 30 := Nat.pow_le_pow_right (by decide) (by omega)
  rw [shl_n rfl h5 (by omega) (by omega), Nat.one_mul, nI_leN (by omega) hb31] at g3
  omega
/-- the first from j on; -2 -/
def ff (p : Nat → Bool) : Nat → Nat → Int
  | 0, _ => -2
  | d + 1, j => if p j then (j : Int) else ff p d (j + 1)
theorem ff_e (p : Nat → Bool) (n : Nat) : ff p (n - n) n = -2 := by rw [Nat.sub_self]; rfl
theorem ff_t {p : Nat → Bool} {n j : Nat} (hj : j < n) (h : p j = true) : ff p (n - j) j = j := by
  rw [show n - j = (n - (j + 1)) + 1 by omega]
  exact if_pos h
theorem ff_f {p : Nat → Bool} {n j : Nat} (hj : j < n) (h : ¬ p j = true) : ff p (n - j) j = ff p (n - (j + 1)) (j + 1) := by
  rw [show n - j = (n - (j + 1)) + 1 by omega]
  exact if_neg h
def whP (σ : SG) (x : Int32) (j : Nat) : Bool := decide (nI (plN (σ 0 6).toNat (σ 0 5).toNat j) = x)
theorem A_which (hb : nb = 43 ∧ db = 5 ∨ nb = 5 ∧ db = 43) (I : IC σ nb mi) (J : IR σ mj) : Agr m_w_which m_r_which [vI x] nb db by_ rs mi ml mj mk := by
  obtain ⟨hW, hs, hB⟩ := J
  by_cases h : σ 0 0 = 1
  · by_cases hx : InS σ x
    · obtain ⟨n, hn, h31⟩ := wf_n hW
      have hBn := (I.2.2 h).w (hbb_of hb) (nI 0)
      refine Agr.mk (vI (zI (ff (whP σ x) n 0))) 0 (by decide) (fun c => g_w_which_0 ⟨_, _, _, R_set2 hb I h hx, fun _ => ?_, fun z => absurd z n10⟩) (fun c => g_r_which_0 ⟨fun _ => ⟨_, R_isS2 hW (RMs_th hs _) hx, fun _ => ?_, fun z => absurd z n10⟩, fun z => absurd z (rf1 hs h)⟩)
      · have h0 := hBn.n hn
        have key : ∀ k, k ≤ n → ∀ i, i = nI k → Go m_w_which 12 [some (vR 10 0 1), some (vI x), some (vI i)] [] (some (vI (zI (ff (whP σ x) (n - k) k)))) c (MRc nb db by_ rs) (u2 mi 1 9 (nI 0)) ml (u2 mi 1 9 (nI 0)) ml := by
          refine upto ?_ ?_
          · intro i hi
            exact g_w_which_12 hb ⟨fun _ => ⟨by rw [ff_e]; rfl, rfl, rfl⟩, fun h => absurd (lp_d h0 hi) h⟩
          · intro k hk ih i hi
            refine g_w_which_12 hb ⟨fun h => absurd h (lp_g h0 hi hk (by omega)), fun _ => ⟨ixn hi (by omega) (by decide), fun g => ?_, fun g => ⟨?_, rfl, rfl⟩⟩⟩
            · rw [cln hi (by omega), hBn.pl (by omega)] at g
              rw [ff_f hk (by unfold whP; rw [decide_eq_true_eq]; exact g)]
              exact ih _ (inc hi)
            · rw [cln hi (by omega), hBn.pl (by omega)] at g
              rw [ff_t hk (by unfold whP; rw [decide_eq_true_eq]; exact g), hi]; rfl
        exact key 0 (by omega) _ rfl
      · have h0 := hs.n hn
        have key : ∀ k, k ≤ n → ∀ i, i = nI k → Go m_r_which 34 [some (vR 19 0 48), some (vI x), some (vI i)] [] (some (vI (zI (ff (whP σ x) (n - k) k)))) c (MRc nb db by_ rs) (u2 mj 48 0 (nI 0)) mk (T3 mj 0) mk := by
          refine upto ?_ ?_
          · intro i hi
            exact g_r_which_34 ⟨fun _ => ⟨by rw [ff_e]; rfl, rfl, rfl⟩, fun h => absurd (lp_d h0 hi) h⟩
          · intro k hk ih i hi
            refine g_r_which_34 ⟨fun h => absurd h (lp_g h0 hi hk (by omega)), fun _ => ⟨ixn hi (by omega) (by decide), fun g => ?_, fun g => ⟨?_, rfl, rfl⟩⟩⟩
            · have g : ¬ mj 49 i.toNatClampNeg = x := g
              rw [cln hi (by omega), hB.1 k (by omega)] at g
              rw [ff_f hk (by unfold whP; rw [decide_eq_true_eq]; exact g)]
              exact ih _ (inc hi)
            · have g : mj 49 i.toNatClampNeg = x := g
              rw [cln hi (by omega), hB.1 k (by omega)] at g
              rw [ff_t hk (by unfold whP; rw [decide_eq_true_eq]; exact g), hi]; rfl
        exact key 0 (by omega) _ rfl
    · exact Agr.mk (vI (-(nI 1))) 2 (by decide) (fun c => g_w_which_0 ⟨_, _, _, R_set1 hb I h hx, fun z => absurd rfl z, fun _ => ⟨rfl, rfl, rfl⟩⟩) (fun c => g_r_which_0 ⟨fun _ => ⟨_, R_isS1 hW (RMs_th hs _) hx, fun z => absurd rfl z, fun _ => ⟨rfl, rfl, rfl⟩⟩, fun z => absurd z (rf1 hs h)⟩)
  · exact Agr.mk (vI (-(nI 1))) 1 (by decide) (fun c => g_w_which_0 ⟨_, _, _, R_set0 hb I h, fun z => absurd rfl z, fun _ => ⟨rfl, rfl, rfl⟩⟩) (fun c => g_r_which_0 ⟨fun z => absurd (rf0 hs h hW) z, fun _ => ⟨rfl, rfl, rfl⟩⟩)
/-- turned together -/
def xr (f : Nat → Nat) : Nat → Nat
  | 0 => 0
  | n + 1 => xr f n ^^^ f n
def odF (σ : SG) (b i : Nat) : Nat := if bt b i = 1 then plN (σ 0 6).toNat (σ 0 5).toNat i else 0
theorem od_t {b j : Nat} (h : bt b j = 1) : nI (xr (odF σ b) j) ^^^ nI (plN (σ 0 6).toNat (σ 0 5).toNat j) = nI (xr (odF σ b) (j + 1)) := by
  rw [nI_xor]; show _ = nI (xr (odF σ b) j ^^^ odF σ b j); rw [show odF σ b j = _ from if_pos h]
theorem od_f {b j : Nat} (h : ¬ bt b j = 1) : nI (xr (odF σ b) j) = nI (xr (odF σ b) (j + 1)) := by
  show _ = nI (xr (odF σ b) j ^^^ odF σ b j); rw [show odF σ b j = _ from if_neg h, Nat.xor_zero]
theorem A_odd (hb : nb = 43 ∧ db = 5 ∨ nb = 5 ∧ db = 43) (I : IC σ nb mi) (J : IR σ mj) : Agr m_w_odd m_r_odd [vI x] nb db by_ rs mi ml mj mk := by
  obtain ⟨hW, hs, hB⟩ := J
  by_cases h : σ 0 0 = 1
  · by_cases hx : InS σ x
    · obtain ⟨n, hn, h31⟩ := wf_n hW
      have hBn := (I.2.2 h).w (hbb_of hb) (nI 0)
      obtain ⟨b, eb, hb2⟩ := hx.nat
      have hb31 : b < 2 ^ 31 := Nat.lt_of_lt_of_le hb2 (p31 (by omega))
      refine Agr.mk (vI (nI (xr (odF σ b) n))) 0 (by decide) (fun c => g_w_odd_0 ⟨_, _, _, R_set2 hb I h hx, fun _ => ?_, fun z => absurd z n10⟩) (fun c => g_r_odd_0 ⟨fun _ => ⟨_, R_isS2 hW (RMs_th hs _) hx, fun _ => ?_, fun z => absurd z n10⟩, fun z => absurd z (rf1 hs h)⟩)
      · have h0 := hBn.n hn
        have key : ∀ k, k ≤ n → ∀ i a, i = nI k → a = nI (xr (odF σ b) k) → Go m_w_odd 14 [some (vR 10 0 1), some (vI x), some (vI a), some (vI i)] [] (some (vI (nI (xr (odF σ b) n)))) c (MRc nb db by_ rs) (u2 mi 1 9 (nI 0)) ml (u2 mi 1 9 (nI 0)) ml := by
          refine upto ?_ ?_
          · intro i a hi ha
            exact g_w_odd_14 hb ⟨fun _ => ⟨by rw [ha], rfl, rfl⟩, fun h => absurd (lp_d h0 hi) h⟩
          · intro k hk ih i a hi ha
            have e := bit_i eb hi hb31 (by omega)
            refine g_w_odd_14 hb ⟨fun h => absurd h (lp_g h0 hi hk (by omega)), fun _ => ⟨fun g => ih _ _ (inc hi) ?_, fun g => ⟨ixn hi (by omega) (by decide), ih _ _ (inc hi) ?_⟩⟩⟩
            · rw [e, nI_01 (bt_01 _ _)] at g
              rw [ha, od_f g]
            · rw [e, nI_01 (bt_01 _ _)] at g
              rw [cln hi (by omega), hBn.pl (by omega), ha, od_t g]
        exact key 0 (by omega) _ _ rfl rfl
      · have h0 := hs.n hn
        have key : ∀ k, k ≤ n → ∀ i a, i = nI k → a = nI (xr (odF σ b) k) → Go m_r_odd 36 [some (vR 19 0 48), some (vI x), some (vI a), some (vI i)] [] (some (vI (nI (xr (odF σ b) n)))) c (MRc nb db by_ rs) (u2 mj 48 0 (nI 0)) mk (T3 mj 0) mk := by
          refine upto ?_ ?_
          · intro i a hi ha
            exact g_r_odd_36 ⟨fun _ => ⟨by rw [ha], rfl, rfl⟩, fun h => absurd (lp_d h0 hi) h⟩
          · intro k hk ih i a hi ha
            refine g_r_odd_36 ⟨fun h => absurd h (lp_g h0 hi hk (by omega)), fun _ => ⟨_, R_has eb hi hb31 (by omega), fun g => ih _ _ (inc hi) ?_, fun g => ⟨ixn hi (by omega) (by decide), ih _ _ (inc hi) ?_⟩⟩⟩
            · rw [ha, od_f (fun z => by rw [z] at g; exact absurd g (by decide))]
            · have z : bt b k = 1 := by
                rcases bt_01 b k with z | z
                · rw [z] at g; exact absurd rfl g
                · exact z
              have e9 : u2 mj 48 0 (nI 0) 49 i.toNatClampNeg = nI (plN (σ 0 6).toNat (σ 0 5).toNat k) := by
                rw [cln hi (by omega)]; exact hB.1 k (by omega)
              rw [e9, ha, od_t z]
        exact key 0 (by omega) _ _ rfl rfl
    · exact Agr.mk (vI (-(nI 1))) 2 (by decide) (fun c => g_w_odd_0 ⟨_, _, _, R_set1 hb I h hx, fun z => absurd rfl z, fun _ => ⟨rfl, rfl, rfl⟩⟩) (fun c => g_r_odd_0 ⟨fun _ => ⟨_, R_isS1 hW (RMs_th hs _) hx, fun z => absurd rfl z, fun _ => ⟨rfl, rfl, rfl⟩⟩, fun z => absurd z (rf1 hs h)⟩)
  · exact Agr.mk (vI (-(nI 1))) 1 (by decide) (fun c => g_w_odd_0 ⟨_, _, _, R_set0 hb I h, fun z => absurd rfl z, fun _ => ⟨rfl, rfl, rfl⟩⟩) (fun c => g_r_odd_0 ⟨fun z => absurd (rf0 hs h hW) z, fun _ => ⟨rfl, rfl, rfl⟩⟩)
end
