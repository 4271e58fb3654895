/-! ===== masks: the calls rank, told, agree, solved, factor ===== -/
theorem bt_bits {f : Nat → Bool} {n j : Nat} (h : j < n) : bt (bitsOf f n) j = if f j = true then 1 else 0 := by
  unfold bt; rw [bitsOf_at f n h]
theorem agB_dn {μ : Nat → Nat} {T : Nat → Int} {q : Nat} (h : agB μ T (q + 1) = true) : agB μ T q = true := by
  cases e : pvO μ T q with
  | some p => rw [agB_s e] at h; exact h
  | none => rw [agB_n e, Bool.and_eq_true] at h; exact h.1
theorem agB_le {μ : Nat → Nat} {T : Nat → Int} {q : Nat} : ∀ d, agB μ T (q + d) = true → agB μ T q = true
  | 0, h => h
  | d + 1, h => agB_le d (agB_dn h)
section
variable {nb db b : Nat} {by_ rs : RX} {c : Nat} {σ : SG} {mi mj m : MI} {ml mk l : ML} {x y z : Int32}
theorem R_ht_n (hb : nb = 43 ∧ db = 5 ∨ nb = 5 ∧ db = 43) (hW : WF σ) (h8 : mi 1 8 = zI (σ 0 0)) (hn : σ 0 0 = 1 → mi nb 0 = zI (σ 0 5)) (h : ¬ InK σ 5 x) : Ret m_w_haveTold [vR 10 0 1, vI x] (some (vI (nI 0))) c (MRc nb db by_ rs) mi ml (u2 mi 1 9 (nI 1)) ml :=
  g_w_haveTold_0 ⟨_, _, _, g_w_haveOne_0 hb (in3_f (nInK.fac (rd_01 hW) hW.nn.1 (by have := hW.nn; omega) h8 hn h) ⟨rfl, rfl, rfl⟩), fun _ => ⟨rfl, rfl, rfl⟩, fun g => absurd rfl g⟩
theorem R_ht (hb : nb = 43 ∧ db = 5 ∨ nb = 5 ∧ db = 43) (hW : WF σ) (h8 : mi 1 8 = zI (σ 0 0)) (hn : σ 0 0 = 1 → mi nb 0 = zI (σ 0 5)) (h : InK σ 5 x) {j : Nat} (hx : x = nI j) (hj : j < 31) {f : Nat → Bool} (h19 : mi 19 1 = nI (bitsOf f 31)) : Ret m_w_haveTold [vR 10 0 1, vI x] (some (vI (bI (f j)))) c (MRc nb db by_ rs) mi ml (u2 mi 1 9 (nI (if f j = true then 0 else 5))) ml := by
  have H1 : Ret m_w_haveOne [vR 10 0 1, vI x] (some (vI (nI 1))) c (MRc nb db by_ rs) mi ml (u2 mi 1 9 (nI 0)) ml := g_w_haveOne_0 hb (in3_t (h.fac (by have := hW.nn; omega) h8 hn) ⟨rfl, rfl, rfl⟩)
  have nx0 : ¬ x < 0 := by rw [hx]; exact fun g => absurd ((nI_ltI (by omega) (by decide)).mp (show nI j < nI 0 from g)) (by omega)
  have n31 : ¬ nI 31 ≤ x := by rw [hx, nI_leN (by decide) (by omega)]; omega
  have eb : (mi 19 1 >>> (x &&& 31)) &&& nI 1 = nI (bt (bitsOf f 31) j) := bit_i h19 hx (bitsOf_lt f 31) (by omega)
  rw [bt_bits hj] at eb
  cases e : f j with
  | true =>
    rw [e, if_pos rfl] at eb
    rw [if_pos rfl]
    exact g_w_haveTold_0 ⟨_, _, _, H1, fun g => absurd g n10, fun _ => ⟨fun g => absurd g nx0, fun _ => ⟨fun g => absurd g n31, fun _ => ⟨fun g => absurd eb g, fun _ => ⟨rfl, (u2_u2 _ _ _ _ _).symm, rfl⟩⟩⟩⟩⟩
  | false =>
    rw [e, if_neg (by decide)] at eb
    rw [if_neg (by decide)]
    exact g_w_haveTold_0 ⟨_, _, _, H1, fun g => absurd g n10, fun _ => ⟨fun g => absurd g nx0, fun _ => ⟨fun g => absurd g n31, fun _ => ⟨fun _ => ⟨rfl, (u2_u2 _ _ _ _ _).symm, rfl⟩, fun g => absurd (eb.symm.trans g) (by decide)⟩⟩⟩⟩
theorem A_rank (I : IC σ nb mi) (M : RCm σ mi ml) (J : IR σ mj) : Agr m_w_rank m_r_rank [] nb db by_ rs mi ml mj mk := by
  obtain ⟨hW, hs, hB⟩ := J
  by_cases hr : σ 0 0 = 1
  · have e1 : ¬ mi 1 8 = 0 := by rw [I.2.1.1, hr]; decide
    have e2 : ¬ mj 48 26 = 0 := by rw [hs.rd, hr]; decide
    intro c
    obtain ⟨m', l', L1, L2, L3⟩ := LAYS (nb := nb) (db := db) (by_ := by_) (rs := rs) (c := c) (mk := mk) hW hr hs hB
    refine ⟨vI (nI (rk (muS σ) (kS σ))), 0, _, _, l', by decide, by decide, g_w_rank_0 ⟨fun g => absurd g e1, fun _ => ⟨?_, rfl, rfl⟩⟩, g_r_rank_0 ⟨fun _ => ⟨_, _, L1, ?_, rfl, rfl⟩, fun g => absurd g e2⟩, FCw.one _ _, FRw.ag L2.2.2 0, FLw.of3 L3, rfl⟩
    · rw [(M hr).1.2.1]
    · rw [(RS_z rfl rfl L2.1).1]
  · have z0' : σ 0 0 = 0 := by rcases rd_01 hW with z | z; exact z; exact absurd z hr
    exact Agr.mk (vI (-(nI 1))) 1 (by decide) (fun c => g_w_rank_0 ⟨fun _ => ⟨rfl, rfl, rfl⟩, fun g => absurd (by rw [I.2.1.1, z0']; rfl) g⟩) (fun c => g_r_rank_0 ⟨fun g => absurd (by rw [hs.rd, z0']; rfl) g, fun _ => ⟨rfl, rfl, rfl⟩⟩)
theorem A_told (I : IC σ nb mi) (M : RCm σ mi ml) (J : IR σ mj) : Agr m_w_told m_r_told [] nb db by_ rs mi ml mj mk := by
  obtain ⟨hW, hs, hB⟩ := J
  by_cases hr : σ 0 0 = 1
  · have e1 : ¬ mi 1 8 = 0 := by rw [I.2.1.1, hr]; decide
    have e2 : ¬ mj 48 26 = 0 := by rw [hs.rd, hr]; decide
    obtain ⟨N, hn, h31⟩ := wf_n hW
    have hμ : ∀ q, q < kS σ → muS σ q < 2 ^ N := fun q hq => by have := muS_lt hW q hq; rw [hn] at this; exact this
    intro c
    obtain ⟨m', l', L1, L2, L3⟩ := LAYS (nb := nb) (db := db) (by_ := by_) (rs := rs) (c := c) (mk := mk) hW hr hs hB
    have h5 : m' 48 5 = nI N := by rw [L2.2.2.2 5 (by decide) (by decide)]; exact hs.n hn
    have key : ∀ j, j ≤ N → ∀ (i a : Int32), i = nI j → a = orB (tlB (muS σ) (kS σ) (kS σ)) j → Go m_r_told 26 [some (vR 19 0 48), some (vI a), some (vI i)] [] (some (vI (orB (tlB (muS σ) (kS σ) (kS σ)) N))) c (MRc nb db by_ rs) m' l' (u2 (u2 m' 48 1 (nI 0)) 48 2 (-(nI 1))) l' := by
      refine upto ?_ ?_
      · intro i a hi ha
        exact g_r_told_26 ⟨fun _ => ⟨by rw [ha], rfl, rfl⟩, fun g => absurd (lp_d h5 hi) g⟩
      · intro j hj ih i a hi ha
        cases e : tlB (muS σ) (kS σ) (kS σ) j with
        | true =>
          obtain ⟨q, q1, q2, q3⟩ := tlB_t.mp e
          have hrk := rk_lt q1 q2
          have := rk_i (μ := muS σ) (kS σ)
          have := kS_12 hW
          exact g_r_told_26 ⟨fun g => absurd g (lp_g h5 hi hj (by omega)), fun _ => ⟨_, R_rowOf_t (kS_12 hW) L2.1 q1 q2 q3 hi, fun g => absurd g (nI_m1 (by omega)), fun _ => ih _ _ (inc hi) (orB_t hi ha e)⟩⟩
        | false =>
          exact g_r_told_26 ⟨fun g => absurd g (lp_g h5 hi hj (by omega)), fun _ => ⟨_, R_rowOf_f (kS_12 hW) L2.1 (by omega) e hi, fun _ => ih _ _ (inc hi) (orB_f ha (by rw [e]; decide)), fun g => absurd rfl g⟩⟩
    refine ⟨vI (orB (tlB (muS σ) (kS σ) (kS σ)) N), 0, _, _, l', by decide, by decide, g_w_told_0 ⟨fun g => absurd g e1, fun _ => ⟨?_, rfl, rfl⟩⟩, g_r_told_0 ⟨fun _ => ⟨_, _, L1, key 0 (Nat.zero_le _) _ _ rfl rfl⟩, fun g => absurd g e2⟩, FCw.one _ _, FRw.ag L2.2.2 0, FLw.of3 L3, rfl⟩
    rw [(M hr).2.1, orB_all h31 (fun k hk => tlB_hi hμ hk)]
  · have z0' : σ 0 0 = 0 := by rcases rd_01 hW with z | z; exact z; exact absurd z hr
    exact Agr.mk (vI (-(nI 1))) 1 (by decide) (fun c => g_w_told_0 ⟨fun _ => ⟨rfl, rfl, rfl⟩, fun g => absurd (by rw [I.2.1.1, z0']; rfl) g⟩) (fun c => g_r_told_0 ⟨fun g => absurd (by rw [hs.rd, z0']; rfl) g, fun _ => ⟨rfl, rfl, rfl⟩⟩)
theorem A_agree (hb : nb = 43 ∧ db = 5 ∨ nb = 5 ∧ db = 43) (I : IC σ nb mi) (M : RCm σ mi ml) (J : IR σ mj) : Agr m_w_agree m_r_agree [] nb db by_ rs mi ml mj mk := by
  obtain ⟨hW, hs, hB⟩ := J
  by_cases hr : σ 0 0 = 1
  · have e1 : ¬ mi 1 8 = 0 := by rw [I.2.1.1, hr]; decide
    have e2 : ¬ mj 48 26 = 0 := by rw [hs.rd, hr]; decide
    have hbb := hbb_of hb
    have hK := kS_12 hW
    have hms := hW.ms
    have hBn := (I.2.2 hr).w hbb (nI 0)
    have h4 : u2 mi 1 9 (nI 0) nb 4 = nI (kS σ) := by rw [hBn.2.2.2.2.1, kS_z hW]
    have hm4 : ∀ q, q < kS σ → u2 mi 1 9 (nI 0) (nb + 4) q = nI (muS σ q) := fun q hq => by rw [hBn.mk (by unfold kS at hq; omega), muS_z hW hq]
    intro c
    obtain ⟨m', l', L1, L2, L3⟩ := LAYS (nb := nb) (db := db) (by_ := by_) (rs := rs) (c := c) (mk := mk) hW hr hs hB
    have key : ∀ j, j ≤ kS σ → agB (muS σ) (thT σ) j = true → ∀ i : Int32, i = nI j → Go m_mt_allAgree 2 [some (vR 16 0 19), some (vR 13 0 nb), some (vI i)] [] (some (vI (bI (agB (muS σ) (thT σ) (kS σ))))) c (MRc nb db by_ rs) (u2 mi 1 9 (nI 0)) ml (u2 mi 1 9 (nI 0)) ml := by
      refine upto ?_ ?_
      · intro ha i hi
        exact g_mt_allAgree_2 hbb ⟨fun _ => ⟨by rw [ha]; rfl, rfl, rfl⟩, fun g => absurd (lp_d h4 hi) g⟩
      · intro j hj ih ha i hi
        have vi : vp_in i 12 := ixn hi (by omega) (by decide)
        have e34 : u2 mi 1 9 (nI 0) 34 i.toNatClampNeg = mi 34 j := by rw [u2_o _ _ (by decide), cln hi (by omega)]
        have hM := (M hr).1.2.2 j hj
        cases e : pvO (muS σ) z0 j with
        | some p =>
          have p31' := (pv_sp e).1
          refine g_mt_allAgree_2 hbb ⟨fun g => absurd g (lp_g h4 hi hj (by omega)), fun _ => ⟨vi, fun _ => ih (by rw [agB_s (pvO_T.trans e)]; exact ha) _ (inc hi), fun g => absurd ?_ g⟩⟩
          rw [e34, (hM.1 p e).1]
          exact (nI_leN (by decide) (by omega)).mpr (Nat.zero_le p)
        | none =>
          obtain ⟨f1, f2⟩ := hM.2 e
          have hsum := R_sumOf (nb := nb) (db := db) (by_ := by_) (rs := rs) (c := c) (mi := u2 mi 1 9 (nI 0)) (ml := ml) (μ := muS σ) (F := fun k => NW (vm (muS σ) z0 j) (vsS (muS σ) z0 j) (psS (muS σ) z0 j) (31 + k)) hbb hW hBn h4 hK hm4 (muS_31 hW) (show j < 12 by omega) (fun k hk => f2 (31 + k) (by omega)) hi
          have e43 : sumZ (fun k => NW (vm (muS σ) z0 j) (vsS (muS σ) z0 j) (psS (muS σ) z0 j) (31 + k) * thr σ (muS σ k)) (kS σ) = NW (vm (muS σ) (thT σ) j) (vsS (muS σ) (thT σ) j) (psS (muS σ) (thT σ) j) 43 := (NW_43 hK hj).symm
          rw [e43] at hsum
          have ok := mS_ok (muS σ) (thT σ) j
          have hbd : (NW (vm (muS σ) (thT σ) j) (vsS (muS σ) (thT σ) j) (psS (muS σ) (thT σ) j) 43).natAbs ≤ 7484400 * 309969 := by
            have h1 := NW_bd (v := vm (muS σ) (thT σ) j) (vs := vsS (muS σ) (thT σ) j) (ps := psS (muS σ) (thT σ) j) (fun u hu q' => by
              rcases List.mem_cons.mp hu with e | e
              · rw [e]; exact vm_bd (thT_bd hW j hj) q'
              · exact vsS_ok (thT_bd hW) (show j ≤ kS σ by omega) u e q') (fun q' hq' => by have := ok.2.2.2.1 q' hq'; omega) ok.2.1 43
            exact Nat.le_trans h1 (Nat.mul_le_mul (bb_12 _ (by omega)) (wt_le 43).2)
          have hz : zL (NW (vm (muS σ) (thT σ) j) (vsS (muS σ) (thT σ) j) (psS (muS σ) (thT σ) j) 43) = lN 0 ↔ NW (vm (muS σ) (thT σ) j) (vsS (muS σ) (thT σ) j) (psS (muS σ) (thT σ) j) 43 = 0 := by
            rw [lN_z, zL_eq (lR63 (by omega)) (by decide)]; rfl
          have ea := agB_n (pvO_T.trans e : pvO (muS σ) (thT σ) j = none)
          refine g_mt_allAgree_2 hbb ⟨fun g => absurd g (lp_g h4 hi hj (by omega)), fun _ => ⟨vi, fun g => absurd g (by rw [e34, f1]; decide), fun _ => ⟨_, hsum, fun g => ih (by rw [ea, ha, decide_eq_true (hz.mp g)]; rfl) _ (inc hi), fun g => ⟨?_, rfl, rfl⟩⟩⟩⟩
          have : agB (muS σ) (thT σ) (kS σ) = false := Bool.eq_false_iff.mpr (fun h => by
            have h2 := agB_le (μ := muS σ) (T := thT σ) (q := j + 1) (kS σ - (j + 1)) (by rw [show j + 1 + (kS σ - (j + 1)) = kS σ by omega]; exact h)
            rw [ea, ha, decide_eq_false (fun h3 => g (hz.mpr h3))] at h2
            cases h2)
          rw [this]; rfl
    have HC := g_mt_allAgree_0 hbb (key 0 (Nat.zero_le _) rfl _ rfl)
    cases ea : agB (muS σ) (thT σ) (kS σ) with
    | true =>
      rw [ea] at HC
      exact ⟨vI (nI 1), 0, _, _, l', by decide, by decide, g_w_agree_0 hb ⟨fun g => absurd g e1, fun _ => ⟨_, HC, fun g => absurd g (by decide), fun _ => ⟨rfl, rfl, rfl⟩⟩⟩, g_r_agree_0 ⟨fun _ => ⟨_, _, L1, fun g => absurd (by rw [L2.2.1, ea] at g; exact g) (by decide), fun _ => ⟨rfl, rfl, rfl⟩⟩, fun g => absurd g e2⟩, FCw.one _ _, FRw.ag L2.2.2 0, FLw.of3 L3, rfl⟩
    | false =>
      rw [ea] at HC
      exact ⟨vI (nI 0), 0, _, _, l', by decide, by decide, g_w_agree_0 hb ⟨fun g => absurd g e1, fun _ => ⟨_, HC, fun _ => ⟨rfl, rfl, rfl⟩, fun g => absurd rfl g⟩⟩, g_r_agree_0 ⟨fun _ => ⟨_, _, L1, fun _ => ⟨rfl, rfl, rfl⟩, fun g => absurd (by rw [L2.2.1, ea]; rfl) g⟩, fun g => absurd g e2⟩, FCw.one _ _, FRw.ag L2.2.2 0, FLw.of3 L3, rfl⟩
  · have z0' : σ 0 0 = 0 := by rcases rd_01 hW with z | z; exact z; exact absurd z hr
    exact Agr.mk (vI (-(nI 1))) 1 (by decide) (fun c => g_w_agree_0 hb ⟨fun _ => ⟨rfl, rfl, rfl⟩, fun g => absurd (by rw [I.2.1.1, z0']; rfl) g⟩) (fun c => g_r_agree_0 ⟨fun g => absurd (by rw [hs.rd, z0']; rfl) g, fun _ => ⟨rfl, rfl, rfl⟩⟩)
end
