/-! ===== odds, better, more, errors, worst, alone, alones, closer ===== -/
/-- one lost plate at most -/
theorem pcN_one : ∀ (k n i i' : Nat), i < k → i' < k → pcN k n ≤ 1 → bt n i = 1 → bt n i' = 1 → i = i'
  | 0, _, _, _, h, _, _, _, _ => by omega
  | k + 1, n, i, i', h, h', hp, hb, hb' => by
    have hp : n % 2 + pcN k (n / 2) ≤ 1 := hp
    have sh : ∀ j, bt n (j + 1) = bt (n / 2) j := fun j => by
      unfold bt
      rw [Nat.div_div_eq_div_mul, ← Nat.pow_succ']
    have z0 : bt n 0 = n % 2 := by unfold bt; rw [Nat.pow_zero, Nat.div_one]
    cases i with
    | zero =>
      cases i' with
      | zero => rfl
      | succ j =>
        rw [sh] at hb'
        rw [z0] at hb
        have := pcN_pos k (n / 2) j (by omega) hb'
        omega
    | succ j =>
      cases i' with
      | zero =>
        rw [sh] at hb
        rw [z0] at hb'
        have := pcN_pos k (n / 2) j (by omega) hb
        omega
      | succ j' =>
        rw [sh] at hb hb'
        rw [pcN_one k (n / 2) j j' (by omega) (by omega) (by omega) hb hb']
theorem sum_one {f : Nat → Int} {M B : Int} {P : Nat → Prop} (hB : 0 ≤ B) : ∀ n : Nat, (∀ i i', i < n → i' < n → P i → P i' → i = i') → (∀ i, i < n → ¬ P i → -M ≤ f i ∧ f i ≤ M) → (∀ i, i < n → P i → -(M + B) ≤ f i ∧ f i ≤ M + B) → (-(n * M + B) ≤ sumZ f n ∧ sumZ f n ≤ n * M + B) ∧ ((∀ i, i < n → ¬ P i) → -(n * M) ≤ sumZ f n ∧ sumZ f n ≤ n * M)
  | 0, _, _, _ => by simp [sumZ]; omega
  | n + 1, h1, h2, h3 => by
    have ih := sum_one hB n (fun i i' a b => h1 i i' (by omega) (by omega)) (fun i a => h2 i (by omega)) (fun i a => h3 i (by omega))
    show (-(((n + 1 : Nat) : Int) * M + B) ≤ sumZ f n + f n ∧ sumZ f n + f n ≤ ((n + 1 : Nat) : Int) * M + B) ∧ _
    have e : ((n + 1 : Nat) : Int) * M = n * M + M := by rw [Int.natCast_add, Int.add_mul]; omega
    have e2 : sumZ f (n + 1) = sumZ f n + f n := rfl
    rw [e, e2]
    by_cases hp : P n
    · have h4 := ih.2 (fun i hi hpi => by have := h1 i n (by omega) (by omega) hpi hp; omega)
      have h5 := h3 n (by omega) hp
      refine ⟨by omega, fun h => absurd hp (h n (by omega))⟩
    · have h5 := h2 n (by omega) hp
      refine ⟨by omega, fun h => ?_⟩
      have := ih.2 (fun i hi => h i (by omega))
      omega
theorem back_b2 {σ : SG} (hW : WF σ) (h : los σ < 2) (j : Nat) : -120000000 ≤ backZ σ j ∧ backZ σ j ≤ 120000000 := by
  obtain ⟨n, en, hn, h31⟩ := n31c hW
  have hA := netA_bd hW
  have key := (sum_one (f := bkF σ j) (M := 311067) (B := 14602581) (P := fun i => bt (loB σ) i = 1) (by omega) n (fun i i' a b p q => pcN_one 32 _ i i' (by omega) (by omega) (by show los σ ≤ 1; omega) p q) (fun i hi hp => ?_) (fun i hi hp => ?_)).1
  · unfold backZ; rw [en]
    have : (n : Int) * 311067 ≤ 31 * 311067 := by omega
    omega
  · have h1 := rdg_bd hW i
    have h2 := hW.dk
    unfold bkF netZ
    rw [if_neg hp]
    split <;> omega
  · have := netZ_bd hW i
    unfold bkF
    split <;> omega
theorem err_b2 {σ : SG} (hW : WF σ) (h : los σ < 2) (j : Nat) : -120319968 ≤ errZ σ j ∧ errZ σ j ≤ 120000000 := by
  have h1 := back_b2 hW h j
  have h2 := hW.lights j
  have h3 := hW.nn
  have h4 : 0 ≤ (σ 0 5 + 1) * σ 1 j := Int.mul_nonneg (by omega) h2.1
  have h5 : (σ 0 5 + 1) * σ 1 j ≤ 32 * 9999 := by
    calc (σ 0 5 + 1) * σ 1 j ≤ 32 * σ 1 j := Int.mul_le_mul_of_nonneg_right (by omega) h2.1
      _ ≤ 32 * 9999 := by omega
  unfold errZ; omega
theorem sq_b {x B : Int} (h : -B ≤ x ∧ x ≤ B) : 0 ≤ x * x ∧ x * x ≤ B * B := by
  have h0 : 0 ≤ B := by omega
  by_cases hx : 0 ≤ x
  · exact ⟨Int.mul_nonneg hx hx, Int.mul_le_mul h.2 h.2 hx h0⟩
  · have e : x * x = (-x) * (-x) := by rw [Int.neg_mul_neg]
    rw [e]
    exact ⟨Int.mul_nonneg (by omega) (by omega), Int.mul_le_mul (by omega) (by omega) (by omega) h0⟩
theorem sum_sq_b {f : Nat → Int} {B : Int} (h : ∀ j, -B ≤ f j ∧ f j ≤ B) : ∀ n : Nat, 0 ≤ sumZ (fun j => f j * f j) n ∧ sumZ (fun j => f j * f j) n ≤ n * (B * B) := sumZ_bd (fun j => sq_b (h j))
def odP (σ : SG) (j : Nat) : Bool := decide (backZ σ j < 0 ∨ (backZ σ j).tmod (σ 0 5 + 1) ≠ 0)
def beP (σ : SG) (j : Nat) : Bool := decide (4 * netA σ < backZ σ j * (σ 0 5 + 1))
theorem sumZ_err {σ : SG} : ∀ n : Nat, sumZ (errZ σ) n = -(sumZ (σ 1) n) * (σ 0 5 + 1) + sumZ (backZ σ) n
  | 0 => by simp [sumZ]
  | n + 1 => by
    show sumZ (errZ σ) n + errZ σ n = -(sumZ (σ 1) n + σ 1 n) * (σ 0 5 + 1) + (sumZ (backZ σ) n + backZ σ n)
    rw [sumZ_err n]
    unfold errZ
    generalize σ 0 5 + 1 = t
    rw [Int.neg_add, Int.add_mul, Int.mul_comm t (σ 1 n), Int.neg_mul (σ 1 n)]
    omega
section
variable {nb db b : Nat} {by_ rs : RX} {c : Nat} {σ : SG} {mi mj : MI} {ml mk : ML} {x j : Int32}
theorem A_odds (hb : nb = 43 ∧ db = 5 ∨ nb = 5 ∧ db = 43) (I : IC σ nb mi) (N : RCn σ mi ml) (J : IR σ mj) (R : RMn σ mj) : Agr m_w_odds m_r_odds [] nb db by_ rs mi ml mj mk := by
  have J' := J
  obtain ⟨hW, hs, hB⟩ := J
  by_cases hr : σ 0 0 = 1
  · have hB1 := I.2.2 hr
    by_cases h2 : HB σ
    · obtain ⟨n, hn, h31⟩ := wf_n hW
      have hBn := hB1.w (hbb_of hb) (nI 0)
      have K := RK.of J' hr R h2.1
      have nd := n1_bd hW
      have bk := ((N h2.1).2.2 h2.2).2
      refine Agr.mk (vI (orB (odP σ) n)) 0 (by decide) (fun c => g_w_odds_0 ⟨_, _, _, R_hbt hb hW (rd1 I.2.1 hr) I.sc hB1 h2, fun _ => ?_, fun g => absurd g n10⟩) (fun c => g_r_odds_0 ⟨_, R_rft hW (RMs_th hs _) (rf1 hs hr) h2, fun _ => ?_, fun g => absurd p00 g⟩)
      · have h0 := hBn.n hn
        have key : ∀ k, k ≤ n → ∀ i a, i = nI k → a = orB (odP σ) k → Go m_w_odds 13 [some (vR 10 0 1), some (vI a), some (vI i)] [] (some (vI (orB (odP σ) n))) c (MRc nb db by_ rs) (u2 mi 1 9 (nI 0)) ml (u2 mi 1 9 (nI 0)) ml := by
          refine upto ?_ ?_
          · intro i a hi ha
            exact g_w_odds_13 hb ⟨fun _ => ⟨by rw [ha], rfl, rfl⟩, fun h => absurd (lp_d h0 hi) h⟩
          · intro k hk ih i a hi ha
            have bd := back_bd hW k
            have eb : ml 16 i.toNatClampNeg = zL (backZ σ k) := by rw [cln hi (by omega)]; exact bk k (by omega)
            have en := hBn.nI1 hW
            have er : rmL (ml 16 i.toNatClampNeg) (((u2 mi 1 9 (nI 0)) nb 0 + nI 1).toInt64) = lN 0 ↔ (backZ σ k).tmod (σ 0 5 + 1) = 0 := by
              have h3 := Int.natAbs_tmod (backZ σ k) (σ 0 5 + 1)
              have h4 := Nat.mod_lt (backZ σ k).natAbs (show 0 < (σ 0 5 + 1).natAbs by omega)
              rw [eb, en, zL_rem ⟨by omega, by omega⟩ ⟨by omega, by omega⟩, lN_z, zL_eq ⟨by omega, by omega⟩ (by decide)]
              rfl
            refine g_w_odds_13 hb ⟨fun h => absurd h (lp_g h0 hi hk (by omega)), fun _ => ⟨ixn hi (by omega) (by decide), fun g => ih _ _ (inc hi) (orB_t hi ha ?_), fun g => ⟨ixn hi (by omega) (by decide), fun g2 => absurd g2 ?_, fun _ => ⟨?_, fun g3 => ih _ _ (inc hi) (orB_t hi ha ?_), fun g3 => ih _ _ (inc hi) (orB_f ha ?_)⟩⟩⟩⟩
            · rw [eb, lN_z, zL_lt ⟨by omega, by omega⟩ (by decide)] at g
              exact decide_eq_true (Or.inl g)
            · rw [en, lN_z, zL_le ⟨by omega, by omega⟩ (by decide)]; omega
            · rw [en]; exact zL_nz ⟨by omega, by omega⟩ (by omega)
            · rw [er] at g3; exact decide_eq_true (Or.inr g3)
            · rw [er] at g3
              rw [eb, lN_z, zL_lt ⟨by omega, by omega⟩ (by decide)] at g
              unfold odP
              rw [decide_eq_true_eq]
              omega
        exact key 0 (by omega) _ _ rfl rfl
      · have h0 : u2 mj 48 0 (nI 0) 48 5 = nI n := hs.n hn
        have key : ∀ k, k ≤ n → ∀ i a, i = nI k → a = orB (odP σ) k → Go m_r_odds 28 [some (vR 19 0 48), some (vI (nI 0)), some (vI a), some (vI i)] [] (some (vI (orB (odP σ) n))) c (MRc nb db by_ rs) (u2 mj 48 0 (nI 0)) mk (T3 mj 0) mk := by
          refine upto ?_ ?_
          · intro i a hi ha
            exact g_r_odds_28 ⟨fun _ => ⟨by rw [ha], rfl, rfl⟩, fun h => absurd (lp_d h0 hi) h⟩
          · intro k hk ih i a hi ha
            have bd := back_bd hW k
            have en : ((u2 mj 48 0 (nI 0)) 48 5 + nI 1).toInt64 = zL (σ 0 5 + 1) := hs.nI1 hW
            have er : rmL (zL (backZ σ k)) (((u2 mj 48 0 (nI 0)) 48 5 + nI 1).toInt64) = lN 0 ↔ (backZ σ k).tmod (σ 0 5 + 1) = 0 := by
              have h3 := Int.natAbs_tmod (backZ σ k) (σ 0 5 + 1)
              have h4 := Nat.mod_lt (backZ σ k).natAbs (show 0 < (σ 0 5 + 1).natAbs by omega)
              rw [en, zL_rem ⟨by omega, by omega⟩ ⟨by omega, by omega⟩, lN_z, zL_eq ⟨by omega, by omega⟩ (by decide)]
              rfl
            refine g_r_odds_28 ⟨fun h => absurd h (lp_g h0 hi hk (by omega)), fun _ => ⟨_, R_partsOf K hi (by omega), fun g => ih _ _ (inc hi) (orB_t hi ha ?_), fun g => ⟨_, R_partsOf K hi (by omega), ?_, fun g3 => ih _ _ (inc hi) (orB_f ha ?_), fun g3 => ih _ _ (inc hi) (orB_t hi ha ?_)⟩⟩⟩
            · rw [lN_z, zL_lt ⟨by omega, by omega⟩ (by decide)] at g
              exact decide_eq_true (Or.inl g)
            · rw [en]; exact zL_nz ⟨by omega, by omega⟩ (by omega)
            · rw [er] at g3
              rw [lN_z, zL_lt ⟨by omega, by omega⟩ (by decide)] at g
              unfold odP
              rw [decide_eq_true_eq]
              omega
            · rw [er] at g3; exact decide_eq_true (Or.inr g3)
        exact key 0 (by omega) _ _ rfl rfl
    · exact Agr.mk (vI (-(nI 1))) 5 (by decide) (fun c => g_w_odds_0 ⟨_, _, _, R_hbf hb hW (rd1 I.2.1 hr) I.sc hB1 h2, fun g => absurd rfl g, fun _ => ⟨rfl, rfl, rfl⟩⟩) (fun c => g_r_odds_0 ⟨_, R_rff hW (RMs_th hs _) (rf1 hs hr) h2, fun g => absurd g p50, fun _ => ⟨rfl, rfl, rfl⟩⟩)
  · exact Agr.mk (vI (-(nI 1))) 1 (by decide) (fun c => g_w_odds_0 ⟨_, _, _, R_hbn hb (rd0 I.2.1 hr hW), fun g => absurd rfl g, fun _ => ⟨rfl, rfl, rfl⟩⟩) (fun c => g_r_odds_0 ⟨_, R_rfn (rf0 hs hr hW), fun g => absurd g p10, fun _ => ⟨rfl, rfl, rfl⟩⟩)
theorem be_bd (hW : WF σ) (k : Nat) : -58560198336 ≤ backZ σ k * (σ 0 5 + 1) ∧ backZ σ k * (σ 0 5 + 1) ≤ 58560198336 := by
  have bd := back_bd hW k
  have hn := hW.nn
  constructor
  · calc (-58560198336 : Int) = -1830006198 * 32 := by decide
      _ ≤ -1830006198 * (σ 0 5 + 1) := Int.mul_le_mul_of_nonpos_left (by omega) (by omega)
      _ ≤ backZ σ k * (σ 0 5 + 1) := Int.mul_le_mul_of_nonneg_right (by omega) (by omega)
  · calc backZ σ k * (σ 0 5 + 1) ≤ 1830006198 * (σ 0 5 + 1) := Int.mul_le_mul_of_nonneg_right (by omega) (by omega)
      _ ≤ 58560198336 := by omega
theorem A_better (hb : nb = 43 ∧ db = 5 ∨ nb = 5 ∧ db = 43) (I : IC σ nb mi) (N : RCn σ mi ml) (J : IR σ mj) (R : RMn σ mj) : Agr m_w_better m_r_better [] nb db by_ rs mi ml mj mk := by
  have J' := J
  obtain ⟨hW, hs, hB⟩ := J
  by_cases hr : σ 0 0 = 1
  · have hB1 := I.2.2 hr
    by_cases h2 : HB σ
    · obtain ⟨n, hn, h31⟩ := wf_n hW
      have hBn := hB1.w (hbb_of hb) (nI 0)
      have K := RK.of J' hr R h2.1
      have nd := n1_bd hW
      have hA := netA_bd hW
      have bk := ((N h2.1).2.2 h2.2).2
      have e4 : lN 4 * ml 11 4 = zL (4 * netA σ) := by rw [((N h2.1).2.2 h2.2).1, show lN 4 = zL 4 from rfl, zL_mul]
      refine Agr.mk (vI (orB (beP σ) n)) 0 (by decide) (fun c => g_w_better_0 ⟨_, _, _, R_hbt hb hW (rd1 I.2.1 hr) I.sc hB1 h2, fun _ => ?_, fun g => absurd g n10⟩) (fun c => g_r_better_0 ⟨_, R_rft hW (RMs_th hs _) (rf1 hs hr) h2, fun _ => ?_, fun g => absurd p00 g⟩)
      · have h0 := hBn.n hn
        have key : ∀ k, k ≤ n → ∀ i a, i = nI k → a = orB (beP σ) k → Go m_w_better 13 [some (vR 10 0 1), some (vI a), some (vI i)] [] (some (vI (orB (beP σ) n))) c (MRc nb db by_ rs) (u2 mi 1 9 (nI 0)) ml (u2 mi 1 9 (nI 0)) ml := by
          refine upto ?_ ?_
          · intro i a hi ha
            exact g_w_better_13 hb ⟨fun _ => ⟨by rw [ha], rfl, rfl⟩, fun h => absurd (lp_d h0 hi) h⟩
          · intro k hk ih i a hi ha
            have bd := be_bd hW k
            have eb : ml 16 i.toNatClampNeg * ((u2 mi 1 9 (nI 0)) nb 0 + nI 1).toInt64 = zL (backZ σ k * (σ 0 5 + 1)) := by
              rw [cln hi (by omega), bk k (by omega), hBn.nI1 hW, zL_mul]
            refine g_w_better_13 hb ⟨fun h => absurd h (lp_g h0 hi hk (by omega)), fun _ => ⟨ixn hi (by omega) (by decide), fun g => ih _ _ (inc hi) (orB_f ha ?_), fun g => ih _ _ (inc hi) (orB_t hi ha ?_)⟩⟩
            · rw [eb, e4, zL_le ⟨by omega, by omega⟩ ⟨by omega, by omega⟩] at g
              unfold beP; rw [decide_eq_true_eq]; omega
            · rw [eb, e4, zL_le ⟨by omega, by omega⟩ ⟨by omega, by omega⟩] at g
              exact decide_eq_true (by omega)
        exact key 0 (by omega) _ _ rfl rfl
      · have h0 : u2 mj 48 0 (nI 0) 48 5 = nI n := hs.n hn
        have e5 : lN 4 * (zI (netA σ)).toInt64 = zL (4 * netA σ) := by rw [zI_l ⟨by omega, by omega⟩, show lN 4 = zL 4 from rfl, zL_mul]
        have en : ((u2 mj 48 0 (nI 0)) 48 5).toInt64 + lN 1 = zL (σ 0 5 + 1) := hs.nL hW
        have key : ∀ k, k ≤ n → ∀ i a, i = nI k → a = orB (beP σ) k → Go m_r_better 28 [some (vR 19 0 48), some (vI (nI 0)), some (vI a), some (vI i)] [] (some (vI (orB (beP σ) n))) c (MRc nb db by_ rs) (u2 mj 48 0 (nI 0)) mk (T3 mj 0) mk := by
          refine upto ?_ ?_
          · intro i a hi ha
            exact g_r_better_28 ⟨fun _ => ⟨by rw [ha], rfl, rfl⟩, fun h => absurd (lp_d h0 hi) h⟩
          · intro k hk ih i a hi ha
            have bd := be_bd hW k
            refine g_r_better_28 ⟨fun h => absurd h (lp_g h0 hi hk (by omega)), fun _ => ⟨_, R_netAll K, _, R_partsOf K hi (by omega), fun g => ih _ _ (inc hi) (orB_f ha ?_), fun g => ih _ _ (inc hi) (orB_t hi ha ?_)⟩⟩
            · rw [en, e5, zL_mul, zL_le ⟨by omega, by omega⟩ ⟨by omega, by omega⟩] at g
              unfold beP; rw [decide_eq_true_eq]; omega
            · rw [en, e5, zL_mul, zL_le ⟨by omega, by omega⟩ ⟨by omega, by omega⟩] at g
              exact decide_eq_true (by omega)
        exact key 0 (by omega) _ _ rfl rfl
    · exact Agr.mk (vI (-(nI 1))) 5 (by decide) (fun c => g_w_better_0 ⟨_, _, _, R_hbf hb hW (rd1 I.2.1 hr) I.sc hB1 h2, fun g => absurd rfl g, fun _ => ⟨rfl, rfl, rfl⟩⟩) (fun c => g_r_better_0 ⟨_, R_rff hW (RMs_th hs _) (rf1 hs hr) h2, fun g => absurd g p50, fun _ => ⟨rfl, rfl, rfl⟩⟩)
  · exact Agr.mk (vI (-(nI 1))) 1 (by decide) (fun c => g_w_better_0 ⟨_, _, _, R_hbn hb (rd0 I.2.1 hr hW), fun g => absurd rfl g, fun _ => ⟨rfl, rfl, rfl⟩⟩) (fun c => g_r_better_0 ⟨_, R_rfn (rf0 hs hr hW), fun g => absurd g p10, fun _ => ⟨rfl, rfl, rfl⟩⟩)
end
