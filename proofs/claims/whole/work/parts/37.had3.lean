/-! ===== more, errors, worst, alone, alones, closer ===== -/
theorem sumZ_b2 {f : Nat → Int} {M : Int} (h : ∀ j, -M ≤ f j ∧ f j ≤ M) (n : Nat) : -(n * M) ≤ sumZ f n ∧ sumZ f n ≤ n * M := sumZ_ab h n
def sqE (σ : SG) (j : Nat) : Int := errZ σ j * errZ σ j
theorem sqE_b {σ : SG} (hW : WF σ) (h : los σ < 2) (n : Nat) (h31 : n ≤ 31) : 0 ≤ sumZ (sqE σ) n ∧ sumZ (sqE σ) n ≤ 448784778368031744 := by
  have := sum_sq_b (f := errZ σ) (B := 120319968) (fun j => by have := err_b2 hW h j; omega) n
  have e : sumZ (sqE σ) n = sumZ (fun j => errZ σ j * errZ σ j) n := rfl
  rw [e]
  omega
section
variable {nb db b : Nat} {by_ rs : RX} {c : Nat} {σ : SG} {mi mj : MI} {ml mk : ML} {x j : Int32}
theorem A_more {l : Int32} (hb : nb = 43 ∧ db = 5 ∨ nb = 5 ∧ db = 43) (I : IC σ nb mi) (N : RCn σ mi ml) (J : IR σ mj) (R : RMn σ mj) : Agr m_w_more m_r_more [vI l] nb db by_ rs mi ml mj mk := by
  have J' := J
  obtain ⟨hW, hs, hB⟩ := J
  by_cases hr : σ 0 0 = 1
  · have hB1 := I.2.2 hr
    by_cases h2 : HB σ
    · obtain ⟨n, hn, h31⟩ := wf_n hW
      have hBn := hB1.w (hbb_of hb) (nI 0)
      have K := RK.of J' hr R h2.1
      have nd := n1_bd hW
      have bk := ((N h2.1).2.2 h2.2).2
      have hm := mon_bd hW
      have bd := sumZ_ab (f := errZ σ) (M := 1830326166) (fun j => by have := err_bd hW j; omega) n
      have e2 := sumZ_err (σ := σ) n
      refine Agr.mkL (p := zL ((sumZ (errZ σ) n).tdiv (gcZ (sumZ (errZ σ) n) (σ 0 5 + 1)))) (q := zL ((σ 0 5 + 1).tdiv (gcZ (sumZ (errZ σ) n) (σ 0 5 + 1)))) (vL (frL (sumZ (errZ σ) n) (σ 0 5 + 1) l)) 0 (by decide) (fun c => g_w_more_0 hb ⟨_, _, _, R_hbt hb hW (rd1 I.2.1 hr) I.sc hB1 h2, fun _ => ⟨_, R_monitor (hbb_of hb) hW hBn, ?_⟩, fun g => absurd g n10⟩) (fun c => g_r_more_0 ⟨_, R_rft hW (RMs_th hs _) (rf1 hs hr) h2, fun _ => ?_, fun g => absurd p00 g⟩)
      · have h0 := hBn.n hn
        have key : ∀ k, k ≤ n → ∀ (i : Int32) (a : Int64), i = nI k → a = zL (-(mon σ) * (σ 0 5 + 1) + sumZ (backZ σ) k) → Go m_w_more 32 [some (vR 10 0 1), some (vI l), some (vL a), none, some (vI i)] [] (some (vL (frL (sumZ (errZ σ) n) (σ 0 5 + 1) l))) c (MRc nb db by_ rs) (u2 mi 1 9 (nI 0)) ml (u2 mi 1 9 (nI 0)) ml := by
          refine upto ?_ ?_
          · intro i a hi ha
            refine g_w_more_32 hb ⟨fun _ => ⟨_, R_part ⟨by omega, by omega⟩ nd ?_ (hBn.nI1 hW), rfl, rfl, rfl⟩, fun h => absurd (lp_d h0 hi) h⟩
            rw [ha, e2, mon_n hn]
          · intro k hk ih i a hi ha
            refine g_w_more_32 hb ⟨fun h => absurd h (lp_g h0 hi hk (by omega)), fun _ => ⟨ixn hi (by omega) (by decide), ih _ _ (inc hi) ?_⟩⟩
            rw [ha, cln hi (by omega), bk k (by omega), zL_add, Int.add_assoc]; rfl
        refine key 0 (by omega) _ _ rfl ?_
        rw [zI_l ⟨by omega, by omega⟩, hBn.nI1 hW, zL_neg, zL_mul]
        show _ = zL (-(mon σ) * (σ 0 5 + 1) + 0)
        rw [Int.add_zero]
      · have h0 : u2 mj 48 0 (nI 0) 48 5 = nI n := hs.n hn
        have en : ((u2 mj 48 0 (nI 0)) 48 5).toInt64 + lN 1 = zL (σ 0 5 + 1) := hs.nL hW
        have key : ∀ k, k ≤ n → ∀ (i : Int32) (a : Int64), i = nI k → a = zL (sumZ (errZ σ) k) → Go m_r_more 29 [some (vR 19 0 48), some (vI l), some (vI (nI 0)), some (vL a), none, some (vI i)] [] (some (vL (frL (sumZ (errZ σ) n) (σ 0 5 + 1) l))) c (MRc nb db by_ rs) (u2 mj 48 0 (nI 0)) mk (T3 mj 0) (u2 (u2 mk 48 3 (zL ((sumZ (errZ σ) n).tdiv (gcZ (sumZ (errZ σ) n) (σ 0 5 + 1))))) 48 4 (zL ((σ 0 5 + 1).tdiv (gcZ (sumZ (errZ σ) n) (σ 0 5 + 1))))) := by
          refine upto ?_ ?_
          · intro i a hi ha
            refine g_r_more_29 ⟨fun _ => ⟨_, _, R_sets ⟨by omega, by omega⟩ ⟨nd.1, by omega⟩ ha en, fun g => ⟨?_, rfl, rfl⟩, fun g => ⟨?_, rfl, rfl⟩⟩, fun h => absurd (lp_d h0 hi) h⟩
            · unfold frL; rw [if_pos g, u2_ne2 _ _ (Or.inr (by decide)), u2_s]
            · unfold frL; rw [if_neg g, u2_s]
          · intro k hk ih i a hi ha
            refine g_r_more_29 ⟨fun h => absurd h (lp_g h0 hi hk (by omega)), fun _ => ⟨_, R_errorParts K hi (by omega), ih _ _ (inc hi) ?_⟩⟩
            rw [ha, zL_add]; rfl
        exact key 0 (by omega) _ _ rfl rfl
    · exact Agr.mk (vL (-(lN 9223372036854775808))) 5 (by decide) (fun c => g_w_more_0 hb ⟨_, _, _, R_hbf hb hW (rd1 I.2.1 hr) I.sc hB1 h2, fun g => absurd rfl g, fun _ => ⟨rfl, rfl, rfl⟩⟩) (fun c => g_r_more_0 ⟨_, R_rff hW (RMs_th hs _) (rf1 hs hr) h2, fun g => absurd g p50, fun _ => ⟨rfl, rfl, rfl⟩⟩)
  · exact Agr.mk (vL (-(lN 9223372036854775808))) 1 (by decide) (fun c => g_w_more_0 hb ⟨_, _, _, R_hbn hb (rd0 I.2.1 hr hW), fun g => absurd rfl g, fun _ => ⟨rfl, rfl, rfl⟩⟩) (fun c => g_r_more_0 ⟨_, R_rfn (rf0 hs hr hW), fun g => absurd g p10, fun _ => ⟨rfl, rfl, rfl⟩⟩)
theorem A_errors {l : Int32} (hb : nb = 43 ∧ db = 5 ∨ nb = 5 ∧ db = 43) (I : IC σ nb mi) (N : RCn σ mi ml) (J : IR σ mj) (R : RMn σ mj) : Agr m_w_errors m_r_errors [vI l] nb db by_ rs mi ml mj mk := by
  have J' := J
  obtain ⟨hW, hs, hB⟩ := J
  by_cases hr : σ 0 0 = 1
  · have hB1 := I.2.2 hr
    by_cases h2 : HB σ
    · obtain ⟨n, hn, h31⟩ := wf_n hW
      have hBn := hB1.w (hbb_of hb) (nI 0)
      have K := RK.of J' hr R h2.1
      have nd := n2_bd hW
      have bk := ((N h2.1).2.2 h2.2).2
      have bd := sqE_b hW h2.2 n h31
      refine Agr.mkL (p := zL ((sumZ (sqE σ) n).tdiv (gcZ (sumZ (sqE σ) n) ((σ 0 5 + 1) * (σ 0 5 + 1))))) (q := zL (((σ 0 5 + 1) * (σ 0 5 + 1)).tdiv (gcZ (sumZ (sqE σ) n) ((σ 0 5 + 1) * (σ 0 5 + 1))))) (vL (frL (sumZ (sqE σ) n) ((σ 0 5 + 1) * (σ 0 5 + 1)) l)) 0 (by decide) (fun c => g_w_errors_0 ⟨_, _, _, R_hbt hb hW (rd1 I.2.1 hr) I.sc hB1 h2, fun _ => ?_, fun g => absurd g n10⟩) (fun c => g_r_errors_0 ⟨_, R_rft hW (RMs_th hs _) (rf1 hs hr) h2, fun _ => ?_, fun g => absurd p00 g⟩)
      · have h0 := hBn.n hn
        have key : ∀ k, k ≤ n → ∀ (i : Int32) (a : Int64), i = nI k → a = zL (sumZ (sqE σ) k) → Go m_w_errors 16 [some (vR 10 0 1), some (vI l), some (vL a), none, some (vI i), none, none] [] (some (vL (frL (sumZ (sqE σ) n) ((σ 0 5 + 1) * (σ 0 5 + 1)) l))) c (MRc nb db by_ rs) (u2 mi 1 9 (nI 0)) ml (u2 mi 1 9 (nI 0)) ml := by
          refine upto ?_ ?_
          · intro i a hi ha
            exact g_w_errors_16 hb ⟨fun _ => ⟨_, R_part ⟨by omega, by omega⟩ ⟨nd.1, by omega⟩ ha (by rw [hBn.nI1 hW, zL_mul]), rfl, rfl, rfl⟩, fun h => absurd (lp_d h0 hi) h⟩
          · intro k hk ih i a hi ha
            refine g_w_errors_16 hb ⟨fun h => absurd h (lp_g h0 hi hk (by omega)), fun _ => ⟨_, R_errorOf (hbb_of hb) hW hBn hi (by omega) (bk k (by omega)), ih _ _ (inc hi) ?_⟩⟩
            rw [ha, zL_mul, zL_add]; rfl
        exact key 0 (by omega) _ _ rfl rfl
      · have h0 : u2 mj 48 0 (nI 0) 48 5 = nI n := hs.n hn
        have en : (((u2 mj 48 0 (nI 0)) 48 5).toInt64 + lN 1) * (((u2 mj 48 0 (nI 0)) 48 5).toInt64 + lN 1) = zL ((σ 0 5 + 1) * (σ 0 5 + 1)) := by
          rw [show ((u2 mj 48 0 (nI 0)) 48 5).toInt64 + lN 1 = zL (σ 0 5 + 1) from hs.nL hW, zL_mul]
        have key : ∀ k, k ≤ n → ∀ (i : Int32) (a : Int64), i = nI k → a = zL (sumZ (sqE σ) k) → Go m_r_errors 29 [some (vR 19 0 48), some (vI l), some (vI (nI 0)), some (vL a), none, some (vI i)] [] (some (vL (frL (sumZ (sqE σ) n) ((σ 0 5 + 1) * (σ 0 5 + 1)) l))) c (MRc nb db by_ rs) (u2 mj 48 0 (nI 0)) mk (T3 mj 0) (u2 (u2 mk 48 3 (zL ((sumZ (sqE σ) n).tdiv (gcZ (sumZ (sqE σ) n) ((σ 0 5 + 1) * (σ 0 5 + 1)))))) 48 4 (zL (((σ 0 5 + 1) * (σ 0 5 + 1)).tdiv (gcZ (sumZ (sqE σ) n) ((σ 0 5 + 1) * (σ 0 5 + 1)))))) := by
          refine upto ?_ ?_
          · intro i a hi ha
            refine g_r_errors_29 ⟨fun _ => ⟨_, _, R_sets ⟨by omega, by omega⟩ ⟨nd.1, by omega⟩ ha en, fun g => ⟨?_, rfl, rfl⟩, fun g => ⟨?_, rfl, rfl⟩⟩, fun h => absurd (lp_d h0 hi) h⟩
            · unfold frL; rw [if_pos g, u2_ne2 _ _ (Or.inr (by decide)), u2_s]
            · unfold frL; rw [if_neg g, u2_s]
          · intro k hk ih i a hi ha
            refine g_r_errors_29 ⟨fun h => absurd h (lp_g h0 hi hk (by omega)), fun _ => ⟨_, R_errorParts K hi (by omega), _, R_errorParts K hi (by omega), ih _ _ (inc hi) ?_⟩⟩
            rw [ha, zL_mul, zL_add]; rfl
        exact key 0 (by omega) _ _ rfl rfl
    · exact Agr.mk (vL (-(lN 9223372036854775808))) 5 (by decide) (fun c => g_w_errors_0 ⟨_, _, _, R_hbf hb hW (rd1 I.2.1 hr) I.sc hB1 h2, fun g => absurd rfl g, fun _ => ⟨rfl, rfl, rfl⟩⟩) (fun c => g_r_errors_0 ⟨_, R_rff hW (RMs_th hs _) (rf1 hs hr) h2, fun g => absurd g p50, fun _ => ⟨rfl, rfl, rfl⟩⟩)
  · exact Agr.mk (vL (-(lN 9223372036854775808))) 1 (by decide) (fun c => g_w_errors_0 ⟨_, _, _, R_hbn hb (rd0 I.2.1 hr hW), fun g => absurd rfl g, fun _ => ⟨rfl, rfl, rfl⟩⟩) (fun c => g_r_errors_0 ⟨_, R_rfn (rf0 hs hr hW), fun g => absurd g p10, fun _ => ⟨rfl, rfl, rfl⟩⟩)
/-- the greatest error's colour among the first -/
def wsN (σ : SG) : Nat → Nat
  | 0 => 0
  | j + 1 => if (errZ σ (wsN σ j)).natAbs < (errZ σ j).natAbs then j else wsN σ j
theorem wsN_t {σ : SG} {j : Nat} (h : (errZ σ (wsN σ j)).natAbs < (errZ σ j).natAbs) : wsN σ (j + 1) = j := if_pos h
theorem wsN_f {σ : SG} {j : Nat} (h : ¬ (errZ σ (wsN σ j)).natAbs < (errZ σ j).natAbs) : wsN σ (j + 1) = wsN σ j := if_neg h
theorem wsN_le (σ : SG) : ∀ j, wsN σ j ≤ j
  | 0 => Nat.le_refl _
  | j + 1 => by
    have := wsN_le σ j
    show (if _ then _ else _) ≤ _
    split <;> omega
theorem wsN_lt (σ : SG) {j : Nat} (h : 0 < j) : wsN σ j < j := by
  cases j with
  | zero => omega
  | succ j =>
    have := wsN_le σ j
    show (if _ then _ else _) < _
    split <;> omega
theorem ws_abs {u : Int} (h : -9223372036854775808 < u ∧ u < 9223372036854775808) : (if 0 < zL u then zL u else -(zL u)) = zL u.natAbs := by rw [abs_c h]; rfl
theorem A_worst (hb : nb = 43 ∧ db = 5 ∨ nb = 5 ∧ db = 43) (I : IC σ nb mi) (N : RCn σ mi ml) (J : IR σ mj) (R : RMn σ mj) : Agr m_w_worst m_r_worst [] nb db by_ rs mi ml mj mk := by
  have J' := J
  obtain ⟨hW, hs, hB⟩ := J
  by_cases hr : σ 0 0 = 1
  · have hB1 := I.2.2 hr
    by_cases h2 : HB σ
    · obtain ⟨n, hn, h31⟩ := wf_n hW
      have hn3 := hW.n3 hr
      have hBn := hB1.w (hbb_of hb) (nI 0)
      have K := RK.of J' hr R h2.1
      have bk := ((N h2.1).2.2 h2.2).2
      have ab : ∀ k, (if 0 < zL (errZ σ k) then zL (errZ σ k) else -(zL (errZ σ k))) = zL (errZ σ k).natAbs := fun k => by
        have := err_bd hW k
        exact ws_abs ⟨by omega, by omega⟩
      have na : ∀ k, (errZ σ k).natAbs ≤ 1830326166 := fun k => by have := err_bd hW k; omega
      refine Agr.mk (vI (nI (wsN σ n))) 0 (by decide) (fun c => g_w_worst_0 ⟨_, _, _, R_hbt hb hW (rd1 I.2.1 hr) I.sc hB1 h2, fun _ => ?_, fun g => absurd g n10⟩) (fun c => g_r_worst_0 ⟨_, R_rft hW (RMs_th hs _) (rf1 hs hr) h2, fun _ => ?_, fun g => absurd p00 g⟩)
      · have h0 := hBn.n hn
        have key : ∀ k, k ≤ n → 0 < k → ∀ (i w : Int32) (a : Int64), i = nI k → w = nI (wsN σ k) → a = zL (errZ σ (wsN σ k)).natAbs → Go m_w_worst 18 [some (vR 10 0 1), some (vI w), some (vL a), none, some (vI i), none, none] [] (some (vI (nI (wsN σ n)))) c (MRc nb db by_ rs) (u2 mi 1 9 (nI 0)) ml (u2 mi 1 9 (nI 0)) ml := by
          refine upto ?_ ?_
          · intro _ i w a hi hw ha
            exact g_w_worst_18 hb ⟨fun _ => ⟨by rw [hw], rfl, rfl⟩, fun h => absurd (lp_d h0 hi) h⟩
          · intro k hk ih hk0 i w a hi hw ha
            have b1 := na k
            have b2 := na (wsN σ k)
            refine g_w_worst_18 hb ⟨fun h => absurd h (lp_g h0 hi hk (by omega)), fun _ => ⟨_, R_errorOf (hbb_of hb) hW hBn hi (by omega) (bk k (by omega)), fun g => ih (by omega) _ _ _ (inc hi) ?_ ?_, fun g => ih (by omega) _ _ _ (inc hi) ?_ ?_⟩⟩
            · rw [ab k, ha, zL_le ⟨by omega, by omega⟩ ⟨by omega, by omega⟩] at g
              rw [hw, wsN_f (by omega)]
            · rw [ab k, ha, zL_le ⟨by omega, by omega⟩ ⟨by omega, by omega⟩] at g
              rw [ha, wsN_f (by omega)]
            · rw [ab k, ha, zL_le ⟨by omega, by omega⟩ ⟨by omega, by omega⟩] at g
              rw [hi, wsN_t (by omega)]
            · rw [ab k, ha, zL_le ⟨by omega, by omega⟩ ⟨by omega, by omega⟩] at g
              rw [ab k, wsN_t (by omega)]
        have b0 := na 0
        have w1 : wsN σ 1 = 0 := by
          show (if (errZ σ 0).natAbs < (errZ σ 0).natAbs then 0 else 0) = 0
          rw [if_neg (by omega)]
        refine g_w_worst_18 hb ⟨fun h => absurd h (lp_g h0 rfl (show 0 < n by omega) (by omega)), fun _ => ⟨_, R_errorOf (hbb_of hb) hW hBn rfl (by omega) (bk 0 (by omega)), fun g => ?_, fun g => key 1 (by omega) (by omega) _ _ _ (inc rfl) (by rw [w1]) (by rw [w1, ab 0])⟩⟩
        rw [ab 0, show -(lN 1) = zL (-1) from rfl, zL_le ⟨by omega, by omega⟩ (by decide)] at g
        omega
      · have h0 : u2 mj 48 0 (nI 0) 48 5 = nI n := hs.n hn
        have key : ∀ k, k ≤ n → 0 < k → ∀ (i w : Int32), i = nI k → w = nI (wsN σ k) → Go m_r_worst 28 [some (vR 19 0 48), some (vI (nI 0)), some (vI w), some (vI i)] [] (some (vI (nI (wsN σ n)))) c (MRc nb db by_ rs) (u2 mj 48 0 (nI 0)) mk (T3 mj 0) mk := by
          refine upto ?_ ?_
          · intro _ i w hi hw
            exact g_r_worst_28 ⟨fun _ => ⟨by rw [hw], rfl, rfl⟩, fun h => absurd (lp_d h0 hi) h⟩
          · intro k hk ih hk0 i w hi hw
            have b1 := err_bd hW k
            have b2 := err_bd hW (wsN σ k)
            have hwl := wsN_lt σ hk0
            have no : ¬ (errZ σ (wsN σ k)).natAbs < (errZ σ k).natAbs → w = nI (wsN σ (k + 1)) := fun h => by
              rw [hw, wsN_f h]
            have yes : (errZ σ (wsN σ k)).natAbs < (errZ σ k).natAbs → i = nI (wsN σ (k + 1)) := fun h => by
              rw [hi, wsN_t h]
            refine g_r_worst_28 ⟨fun h => absurd h (lp_g h0 hi hk (by omega)), fun _ => ⟨_, R_errorParts K hi (by omega), fun g => ⟨_, R_errorParts K hw (by omega), fun g2 => ⟨fun g3 => ih (by omega) _ _ (inc hi) (no ?_), fun g3 => ih (by omega) _ _ (inc hi) (yes ?_)⟩, fun g2 => ⟨fun g3 => ih (by omega) _ _ (inc hi) (no ?_), fun g3 => ih (by omega) _ _ (inc hi) (yes ?_)⟩⟩, fun g => ⟨_, R_errorParts K hw (by omega), fun g2 => ⟨fun g3 => ih (by omega) _ _ (inc hi) (no ?_), fun g3 => ih (by omega) _ _ (inc hi) (yes ?_)⟩, fun g2 => ⟨fun g3 => ih (by omega) _ _ (inc hi) (no ?_), fun g3 => ih (by omega) _ _ (inc hi) (yes ?_)⟩⟩⟩⟩
            all_goals
              rw [lN_z, zL_le (by decide) ⟨by omega, by omega⟩] at g g2
              try simp only [zL_neg] at g3
              rw [zL_le ⟨by omega, by omega⟩ ⟨by omega, by omega⟩] at g3
              omega
        have w1 : wsN σ 1 = 0 := by
          show (if (errZ σ 0).natAbs < (errZ σ 0).natAbs then 0 else 0) = 0
          rw [if_neg (by omega)]
        exact key 1 (by omega) (by omega) _ _ rfl (by rw [w1])
    · exact Agr.mk (vI (-(nI 1))) 5 (by decide) (fun c => g_w_worst_0 ⟨_, _, _, R_hbf hb hW (rd1 I.2.1 hr) I.sc hB1 h2, fun g => absurd rfl g, fun _ => ⟨rfl, rfl, rfl⟩⟩) (fun c => g_r_worst_0 ⟨_, R_rff hW (RMs_th hs _) (rf1 hs hr) h2, fun g => absurd g p50, fun _ => ⟨rfl, rfl, rfl⟩⟩)
  · exact Agr.mk (vI (-(nI 1))) 1 (by decide) (fun c => g_w_worst_0 ⟨_, _, _, R_hbn hb (rd0 I.2.1 hr hW), fun g => absurd rfl g, fun _ => ⟨rfl, rfl, rfl⟩⟩) (fun c => g_r_worst_0 ⟨_, R_rfn (rf0 hs hr hW), fun g => absurd g p10, fun _ => ⟨rfl, rfl, rfl⟩⟩)
/-! alone -/
def aloZ (σ : SG) (j : Nat) : Int := thr σ (2 ^ j) + σ 3 j
theorem alo_bd (hW : WF σ) (j : Nat) : -99 ≤ aloZ σ j ∧ aloZ σ j ≤ 310068 := by
  have := thr_bd hW (2 ^ j)
  have := hW.no j
  unfold aloZ; omega
theorem p2_lt {i : Nat} (h : i < 31) : 2 ^ i < 2 ^ 31 := Nat.pow_lt_pow_right (by decide) h
theorem R_aloneOf (hbb : b = 43 ∨ b = 5) (hW : WF σ) (hB : RCb σ b mi) {i : Nat} (hx : x = nI i) (hi : (i : Int) < σ 0 5) : Ret m_bn_aloneOf [vR 13 0 b, vI x] (some (vI (zI (aloZ σ i)))) c (MRc nb db by_ rs) mi ml mi ml := by
  have h31 := InK.n31 hW hi
  have hp := p2_lt h31
  refine g_bn_aloneOf_0 hbb ⟨_, R_readOf hbb hW hB hp (by rw [shl_n rfl hx (by omega) (by omega), Nat.one_mul]), ixn hx (by omega) (by decide), ?_, rfl, rfl⟩
  rw [cln hx (by omega), hB.no hi, hB.2.2.1, zI_add, zI_sub]
  unfold aloZ
  congr 3
  omega
theorem R_raloneOf (hW : WF σ) (hs : RMs σ mj) (hB : RMb σ mj) {i : Nat} (hx : x = nI i) (hi : (i : Int) < σ 0 5) : Ret m_r_aloneOf [vR 19 0 48, vI x] (some (vI (zI (aloZ σ i)))) c (MRc nb db by_ rs) mj mk mj mk := by
  have h31 := InK.n31 hW hi
  have hp := p2_lt h31
  refine g_r_aloneOf_0 ⟨_, R_through hW hs hB hp (by rw [shl_n rfl hx (by omega) (by omega), Nat.one_mul]), ixn hx (by omega) (by decide), ?_, rfl, rfl⟩
  rw [cln hx (by omega), hB.2.2.2.1 i hi, zI_add]; rfl
def offZ (σ : SG) (i : Nat) : Int := aloZ σ i - σ 1 i
theorem off_bd (hW : WF σ) (j : Nat) : -10098 ≤ offZ σ j ∧ offZ σ j ≤ 310068 := by
  have := alo_bd hW j
  have := hW.lights j
  unfold offZ; omega
theorem R_offAlone (hW : WF σ) (hs : RMs σ mj) (hB : RMb σ mj) {i : Nat} (hx : x = nI i) (hi : (i : Int) < σ 0 5) : Ret m_r_offAlone [vR 19 0 48, vI x] (some (vL (zL (offZ σ i).natAbs))) c (MRc nb db by_ rs) mj mk mj mk := by
  have h31 := InK.n31 hW hi
  have bd := off_bd hW i
  have e : (zI (aloZ σ i) - mj 54 x.toNatClampNeg).toInt64 = zL (offZ σ i) := by
    rw [cln hx (by omega), hB.2.1 i hi, zI_sub]
    exact zI_l (z := offZ σ i) ⟨by omega, by omega⟩
  refine g_r_offAlone_0 ⟨_, R_raloneOf hW hs hB hx hi, ixn hx (by omega) (by decide), fun g => ⟨?_, rfl, rfl⟩, fun g => ⟨?_, rfl, rfl⟩⟩
  · rw [e, lN_z, zL_le (by decide) ⟨by omega, by omega⟩] at g
    rw [e]; congr 3; omega
  · rw [e, lN_z, zL_le (by decide) ⟨by omega, by omega⟩] at g
    rw [e, zL_neg]; congr 3; omega
theorem A_alone (hb : nb = 43 ∧ db = 5 ∨ nb = 5 ∧ db = 43) (I : IC σ nb mi) (J : IR σ mj) : Agr m_w_alone m_r_alone [vI j] nb db by_ rs mi ml mj mk := by
  obtain ⟨hW, hs, hB⟩ := J
  by_cases h : InK σ 5 j
  · obtain ⟨i, ei, hi⟩ := h.nat
    exact Agr.mk (vI (zI (aloZ σ i))) 0 (by decide) (fun c => g_w_alone_0 hb ⟨_, _, _, R_one_t hb I h, fun g => absurd g n10, fun _ => ⟨_, R_aloneOf (hbb_of hb) hW ((I.2.2 h.1).w (hbb_of hb) _) ei hi, rfl, rfl, rfl⟩⟩) (fun c => g_r_alone_0 ⟨_, R_is_t hW (RMs_th hs _) h, fun g => absurd g n10, fun _ => ⟨_, R_raloneOf hW (RMs_th hs _) hB ei hi, rfl, rfl, rfl⟩⟩)
  · exact Agr.mk (vI (-(nI 2147483648))) 1 (by decide) (fun c => g_w_alone_0 hb ⟨_, _, _, R_one_f hb I h, fun _ => ⟨rfl, rfl, rfl⟩, fun g => absurd rfl g⟩) (fun c => g_r_alone_0 ⟨_, R_is_f hW (RMs_th hs _) h, fun _ => ⟨rfl, rfl, rfl⟩, fun g => absurd rfl g⟩)
def sqA (σ : SG) (j : Nat) : Int := offZ σ j * offZ σ j
theorem A_alones (hb : nb = 43 ∧ db = 5 ∨ nb = 5 ∧ db = 43) (I : IC σ nb mi) (J : IR σ mj) : Agr m_w_alones m_r_alones [] nb db by_ rs mi ml mj mk := by
  obtain ⟨hW, hs, hB⟩ := J
  by_cases hr : σ 0 0 = 1
  · have hBn := (I.2.2 hr).w (hbb_of hb) (nI 0)
    obtain ⟨n, hn, h31⟩ := wf_n hW
    have h0 := hBn.n hn
    have h1 : u2 mj 48 0 (nI 0) 48 5 = nI n := hs.n hn
    refine Agr.mk (vL (zL (sumZ (sqA σ) n))) 0 (by decide) (fun c => g_w_alones_0 ⟨fun g => absurd g (rd1 I.2.1 hr), fun _ => ?_⟩) (fun c => g_r_alones_0 ⟨fun _ => ?_, fun g => absurd g (rf1 hs hr)⟩)
    · have key : ∀ k, k ≤ n → ∀ (i : Int32) (a : Int64), i = nI k → a = zL (sumZ (sqA σ) k) → Go m_w_alones 15 [some (vR 10 0 1), some (vL a), none, some (vI i), none, none] [] (some (vL (zL (sumZ (sqA σ) n)))) c (MRc nb db by_ rs) (u2 mi 1 9 (nI 0)) ml (u2 mi 1 9 (nI 0)) ml := by
        refine upto ?_ ?_
        · intro i a hi ha
          exact g_w_alones_15 hb ⟨fun _ => ⟨by rw [ha], rfl, rfl⟩, fun h => absurd (lp_d h0 hi) h⟩
        · intro k hk ih i a hi ha
          have bd := off_bd hW k
          have e : (zI (aloZ σ k) - (u2 mi 1 9 (nI 0)) (nb + 2) i.toNatClampNeg).toInt64 = zL (offZ σ k) := by
            rw [cln hi (by omega), hBn.li (by omega), zI_sub]
            exact zI_l (z := offZ σ k) ⟨by omega, by omega⟩
          refine g_w_alones_15 hb ⟨fun h => absurd h (lp_g h0 hi hk (by omega)), fun _ => ⟨_, R_aloneOf (hbb_of hb) hW hBn hi (by omega), ixn hi (by omega) (by decide), ih _ _ (inc hi) ?_⟩⟩
          rw [e, ha, zL_mul, zL_add]; rfl
      exact key 0 (by omega) _ _ rfl rfl
    · have key : ∀ k, k ≤ n → ∀ (i : Int32) (a : Int64), i = nI k → a = zL (sumZ (sqA σ) k) → Go m_r_alones 23 [some (vR 19 0 48), some (vL a), none, some (vI i)] [] (some (vL (zL (sumZ (sqA σ) n)))) c (MRc nb db by_ rs) (u2 mj 48 0 (nI 0)) mk (T3 mj 0) mk := by
        refine upto ?_ ?_
        · intro i a hi ha
          exact g_r_alones_23 ⟨fun _ => ⟨by rw [ha], rfl, rfl⟩, fun h => absurd (lp_d h1 hi) h⟩
        · intro k hk ih i a hi ha
          have e : ((offZ σ k).natAbs : Int) * ((offZ σ k).natAbs : Int) = offZ σ k * offZ σ k := by
            rw [← Int.natCast_mul, Int.natAbs_mul_self]
          refine g_r_alones_23 ⟨fun h => absurd h (lp_g h1 hi hk (by omega)), fun _ => ⟨_, R_offAlone hW (RMs_th hs _) hB hi (by omega), _, R_offAlone hW (RMs_th hs _) hB hi (by omega), ih _ _ (inc hi) ?_⟩⟩
          rw [ha, zL_mul, zL_add, e]; rfl
      exact key 0 (by omega) _ _ rfl rfl
  · exact Agr.mk (vL (-(lN 1))) 1 (by decide) (fun c => g_w_alones_0 ⟨fun _ => ⟨rfl, rfl, rfl⟩, fun g => absurd (rd0 I.2.1 hr hW) g⟩) (fun c => g_r_alones_0 ⟨fun g => absurd (rf0 hs hr hW) g, fun _ => ⟨rfl, rfl, rfl⟩⟩)
def clP (σ : SG) (j : Nat) : Bool := decide ((errZ σ j).natAbs < (offZ σ j).natAbs * (σ 0 5 + 1))
theorem A_closer (hb : nb = 43 ∧ db = 5 ∨ nb = 5 ∧ db = 43) (I : IC σ nb mi) (N : RCn σ mi ml) (J : IR σ mj) (R : RMn σ mj) : Agr m_w_closer m_r_closer [] nb db by_ rs mi ml mj mk := by
  have J' := J
  obtain ⟨hW, hs, hB⟩ := J
  by_cases hr : σ 0 0 = 1
  · have hB1 := I.2.2 hr
    by_cases h2 : HB σ
    · obtain ⟨n, hn, h31⟩ := wf_n hW
      have hBn := hB1.w (hbb_of hb) (nI 0)
      have K := RK.of J' hr R h2.1
      have hnn := hW.nn
      have bk := ((N h2.1).2.2 h2.2).2
      have pb : ∀ k, 0 ≤ ((offZ σ k).natAbs : Int) * (σ 0 5 + 1) ∧ ((offZ σ k).natAbs : Int) * (σ 0 5 + 1) ≤ 9922176 := fun k => by
        have bd := off_bd hW k
        refine ⟨Int.mul_nonneg (by omega) (by omega), ?_⟩
        calc ((offZ σ k).natAbs : Int) * (σ 0 5 + 1) ≤ 310068 * (σ 0 5 + 1) := Int.mul_le_mul_of_nonneg_right (by omega) (by omega)
          _ ≤ 9922176 := by omega
      refine Agr.mk (vI (orB (clP σ) n)) 0 (by decide) (fun c => g_w_closer_0 ⟨_, _, _, R_hbt hb hW (rd1 I.2.1 hr) I.sc hB1 h2, fun _ => ?_, fun g => absurd g n10⟩) (fun c => g_r_closer_0 ⟨_, R_rft hW (RMs_th hs _) (rf1 hs hr) h2, fun _ => ?_, fun g => absurd p00 g⟩)
      · have h0 := hBn.n hn
        have key : ∀ k, k ≤ n → ∀ i a, i = nI k → a = orB (clP σ) k → Go m_w_closer 13 [some (vR 10 0 1), some (vI a), some (vI i), none, none] [] (some (vI (orB (clP σ) n))) c (MRc nb db by_ rs) (u2 mi 1 9 (nI 0)) ml (u2 mi 1 9 (nI 0)) ml := by
          refine upto ?_ ?_
          · intro i a hi ha
            exact g_w_closer_13 hb ⟨fun _ => ⟨by rw [ha], rfl, rfl⟩, fun h => absurd (lp_d h0 hi) h⟩
          · intro k hk ih i a hi ha
            have bd := off_bd hW k
            have ba := alo_bd hW k
            have bl := hW.lights k
            have be := err_bd hW k
            have pk := pb k
            have e : (zI (aloZ σ k)).toInt64 - ((u2 mi 1 9 (nI 0)) (nb + 2) i.toNatClampNeg).toInt64 = zL (offZ σ k) := by
              rw [cln hi (by omega), hBn.li (by omega), zI_l ⟨by omega, by omega⟩, zI_l ⟨by omega, by omega⟩, zL_sub]; rfl
            refine g_w_closer_13 hb ⟨fun h => absurd h (lp_g h0 hi hk (by omega)), fun _ => ⟨_, R_aloneOf (hbb_of hb) hW hBn hi (by omega), ixn hi (by omega) (by decide), _, R_errorOf (hbb_of hb) hW hBn hi (by omega) (bk k (by omega)), fun g => ih _ _ (inc hi) (orB_f ha ?_), fun g => ih _ _ (inc hi) (orB_t hi ha ?_)⟩⟩
            · rw [e, ws_abs ⟨by omega, by omega⟩, ws_abs ⟨by omega, by omega⟩, hBn.nI1 hW, zL_mul, zL_le ⟨by omega, by omega⟩ ⟨by omega, by omega⟩] at g
              unfold clP; rw [decide_eq_true_eq]; omega
            · rw [e, ws_abs ⟨by omega, by omega⟩, ws_abs ⟨by omega, by omega⟩, hBn.nI1 hW, zL_mul, zL_le ⟨by omega, by omega⟩ ⟨by omega, by omega⟩] at g
              exact decide_eq_true (by omega)
        exact key 0 (by omega) _ _ rfl rfl
      · have h0 : u2 mj 48 0 (nI 0) 48 5 = nI n := hs.n hn
        have en : ((u2 mj 48 0 (nI 0)) 48 5).toInt64 + lN 1 = zL (σ 0 5 + 1) := hs.nL hW
        have key : ∀ k, k ≤ n → ∀ i a, i = nI k → a = orB (clP σ) k → Go m_r_closer 28 [some (vR 19 0 48), some (vI (nI 0)), some (vI a), some (vI i)] [] (some (vI (orB (clP σ) n))) c (MRc nb db by_ rs) (u2 mj 48 0 (nI 0)) mk (T3 mj 0) mk := by
          refine upto ?_ ?_
          · intro i a hi ha
            exact g_r_closer_28 ⟨fun _ => ⟨by rw [ha], rfl, rfl⟩, fun h => absurd (lp_d h0 hi) h⟩
          · intro k hk ih i a hi ha
            have be := err_bd hW k
            have pk := pb k
            refine g_r_closer_28 ⟨fun h => absurd h (lp_g h0 hi hk (by omega)), fun _ => ⟨_, R_errorParts K hi (by omega), fun g => ⟨_, R_offAlone hW (RMs_th hs _) hB hi (by omega), fun g2 => ih _ _ (inc hi) (orB_f ha ?_), fun g2 => ih _ _ (inc hi) (orB_t hi ha ?_)⟩, fun g => ⟨_, R_offAlone hW (RMs_th hs _) hB hi (by omega), fun g2 => ih _ _ (inc hi) (orB_f ha ?_), fun g2 => ih _ _ (inc hi) (orB_t hi ha ?_)⟩⟩⟩
            all_goals
              rw [lN_z, zL_le (by decide) ⟨by omega, by omega⟩] at g
              try simp only [zL_neg] at g2
              rw [en, zL_mul, zL_le ⟨by omega, by omega⟩ ⟨by omega, by omega⟩] at g2
            · unfold clP; rw [decide_eq_true_eq]; omega
            · exact decide_eq_true (by omega)
            · unfold clP; rw [decide_eq_true_eq]; omega
            · exact decide_eq_true (by omega)
        exact key 0 (by omega) _ _ rfl rfl
    · exact Agr.mk (vI (-(nI 1))) 5 (by decide) (fun c => g_w_closer_0 ⟨_, _, _, R_hbf hb hW (rd1 I.2.1 hr) I.sc hB1 h2, fun g => absurd rfl g, fun _ => ⟨rfl, rfl, rfl⟩⟩) (fun c => g_r_closer_0 ⟨_, R_rff hW (RMs_th hs _) (rf1 hs hr) h2, fun g => absurd g p50, fun _ => ⟨rfl, rfl, rfl⟩⟩)
  · exact Agr.mk (vI (-(nI 1))) 1 (by decide) (fun c => g_w_closer_0 ⟨_, _, _, R_hbn hb (rd0 I.2.1 hr hW), fun g => absurd rfl g, fun _ => ⟨rfl, rfl, rfl⟩⟩) (fun c => g_r_closer_0 ⟨_, R_rfn (rf0 hs hr hW), fun g => absurd g p10, fun _ => ⟨rfl, rfl, rfl⟩⟩)
end
