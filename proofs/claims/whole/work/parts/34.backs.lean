/-! ===== what is had back, on both sides ===== -/
def sL (f : Nat → Int64) : Nat → Int64
  | 0 => lN 0
  | n + 1 => sL f n + f n
theorem sL_z {f : Nat → Int64} {g : Nat → Int} : ∀ n, (∀ k, k < n → f k = zL (g k)) → sL f n = zL (sumZ g n)
  | 0, _ => rfl
  | n + 1, h => by
    show sL f n + f n = zL (sumZ g n + g n)
    rw [sL_z n (fun k hk => h k (by omega)), h n (by omega), zL_add]
/-- scan data of the class; of the reference -/
def RCn (σ : SG) (mi : MI) (ml : ML) : Prop := σ 0 12 = 1 → (∀ k : Nat, (k : Int) < σ 0 5 → ¬ bt (loB σ) k = 1 → mi 14 k = zI (rdg σ k)) ∧ (∀ k : Nat, (k : Int) < σ 0 5 → (¬ bt (loB σ) k = 1 ∨ los σ = 1) → mi 15 k = zI (netZ σ k)) ∧ (los σ < 2 → ml 11 4 = zL (netA σ) ∧ ∀ k : Nat, (k : Int) < σ 0 5 → ml 16 k = zL (backZ σ k))
def RMn (σ : SG) (mj : MI) : Prop := σ 0 12 = 1 → ∀ k : Nat, (k : Int) < σ 0 5 → ¬ bt (loB σ) k = 1 → mj 60 k = zI (rdg σ k)
def errZ (σ : SG) (j : Nat) : Int := backZ σ j - (σ 0 5 + 1) * σ 1 j
theorem err_bd {σ : SG} (hW : WF σ) (j : Nat) : -1830326166 ≤ errZ σ j ∧ errZ σ j ≤ 1830006198 := by
  have h1 := back_bd hW j
  have h2 := hW.lights j
  have h3 := hW.nn
  have h4 : 0 ≤ (σ 0 5 + 1) * σ 1 j := Int.mul_nonneg (by omega) h2.1
  have h5 : (σ 0 5 + 1) * σ 1 j ≤ 32 * 9999 := by
    calc (σ 0 5 + 1) * σ 1 j ≤ 32 * σ 1 j := Int.mul_le_mul_of_nonneg_right (by omega) h2.1
      _ ≤ 32 * 9999 := by omega
  unfold errZ; omega
theorem bk_n {σ : SG} {n : Nat} (hn : σ 0 5 = n) (j : Nat) : backZ σ j = 4 * sumZ (bkF σ j) n - 2 * netA σ := by
  unfold backZ; rw [hn]; rfl
section
variable {nb db b : Nat} {by_ rs : RX} {c : Nat} {σ : SG} {mi mj : MI} {ml mk : ML} {x j : Int32}
def bkV (σ : SG) (mi : MI) (j i : Nat) : Int64 := if bt (plS σ i) j = 1 then (mi 15 i).toInt64 else lN 0
theorem add0 (a : Int64) : a + lN 0 = a := by rw [zL_of a, show lN 0 = zL 0 from rfl, zL_add, Int.add_zero]
theorem B_in (hbb : b = 43 ∨ b = 5) (hW : WF σ) (hB : RCb σ b mi) {n : Nat} (hn : σ 0 5 = n) {j : Nat} (hj : j < n) {jj : Int32} (hjj : jj = nI j) {rv : Option AV} {mi' : MI} {ml' : ML}
    (G : Go m_sg_findBacks 2 [some (vR 14 0 11), some (vR 13 0 b), some (vI (jj + nI 1)), none, none, none] [] rv c (MRc nb db by_ rs) mi (u2 ml 16 j (lN 4 * sL (bkV σ mi j) n - lN 2 * ml 11 4)) mi' ml') : ∀ q, q ≤ n → ∀ (i : Int32) (a : Int64), i = nI q → a = sL (bkV σ mi j) q → Go m_sg_findBacks 15 [some (vR 14 0 11), some (vR 13 0 b), some (vI jj), some (vL a), none, some (vI i)] [] rv c (MRc nb db by_ rs) mi ml mi' ml' := by
  have h31 : n ≤ 31 := by have := hW.nn; omega
  have hc := hB.n hn
  refine upto ?_ ?_
  · intro i a hi ha
    refine g_sg_findBacks_15 hbb ⟨fun _ => ⟨ixn hjj (by omega) (by decide), ?_⟩, fun h => absurd (lp_d hc hi) h⟩
    rw [cln hjj (by omega), ha]; exact G
  · intro q hq ih i a hi ha
    have e := bit_i (show mi (b + 1) i.toNatClampNeg = nI (plS σ q) by rw [cln hi (by omega), hB.pl (by omega)]; rfl) hjj (plS_lt hW q) (show j < 32 by omega)
    refine g_sg_findBacks_15 hbb ⟨fun h => absurd h (lp_g hc hi hq (by omega)), fun _ => ⟨ixn hi (by omega) (by decide), fun g => ih _ _ (inc hi) ?_, fun g => ⟨ixn hi (by omega) (by decide), ih _ _ (inc hi) ?_⟩⟩⟩
    · rw [e, nI_01 (bt_01 _ _)] at g
      show a = sL (bkV σ mi j) q + bkV σ mi j q
      rw [show bkV σ mi j q = lN 0 from if_neg g, add0, ha]
    · rw [e, nI_01 (bt_01 _ _)] at g
      show _ = sL (bkV σ mi j) q + bkV σ mi j q
      rw [show bkV σ mi j q = _ from if_pos g, ha, cln hi (by omega)]
theorem B_out (hbb : b = 43 ∨ b = 5) (hW : WF σ) (hB : RCb σ b mi) {n : Nat} (hn : σ 0 5 = n) : ∀ j, j ≤ n → ∀ (jj : Int32) (m : ML), jj = nI j → (∀ a, a ≠ 16 → m a = ml a) → ∃ ml' : ML, Go m_sg_findBacks 2 [some (vR 14 0 11), some (vR 13 0 b), some (vI jj), none, none, none] [] none c (MRc nb db by_ rs) mi m mi ml' ∧ (∀ a, a ≠ 16 → ml' a = ml a) ∧ (∀ k, k < j → ml' 16 k = m 16 k) ∧ ∀ k, j ≤ k → k < n → ml' 16 k = lN 4 * sL (bkV σ mi k) n - lN 2 * ml 11 4 := by
  have h31 : n ≤ 31 := by have := hW.nn; omega
  have hc := hB.n hn
  refine upto ?_ ?_
  · intro jj m hj hm
    exact ⟨m, g_sg_findBacks_2 hbb ⟨fun _ => ⟨rfl, rfl, rfl⟩, fun h => absurd (lp_d hc hj) h⟩, hm, fun _ _ => rfl, fun k h1 h2 => by omega⟩
  · intro j hj ih jj m hjj hm
    obtain ⟨ml', p1, p2, p3, p4⟩ := ih (jj + nI 1) (u2 m 16 j (lN 4 * sL (bkV σ mi j) n - lN 2 * m 11 4)) (inc hjj) (fun a ha => by rw [u2_o _ _ ha, hm a ha])
    refine ⟨ml', g_sg_findBacks_2 hbb ⟨fun h => absurd h (lp_g hc hjj hj (by omega)), fun _ => B_in hbb hW hB hn hj hjj p1 0 (by omega) _ _ rfl rfl⟩, p2, fun k hk => ?_, fun k hk hkn => ?_⟩
    · rw [p3 k (by omega), u2_ne2 _ _ (Or.inr (by omega))]
    · rcases Nat.lt_or_ge j k with z | z
      · exact p4 k (by omega) hkn
      · have : k = j := by omega
        subst this
        rw [p3 k (by omega), u2_s, hm 11 (by decide)]
theorem R_findBacks (hbb : b = 43 ∨ b = 5) (hW : WF σ) (hB : RCb σ b mi) (hN : ∀ k : Nat, (k : Int) < σ 0 5 → (¬ bt (loB σ) k = 1 ∨ los σ = 1) → mi 15 k = zI (netZ σ k)) (hA : ml 11 4 = zL (netA σ)) : ∃ ml' : ML, Ret m_sg_findBacks [vR 14 0 11, vR 13 0 b] none c (MRc nb db by_ rs) mi ml mi ml' ∧ (∀ a, a ≠ 16 → ml' a = ml a) ∧ (los σ < 2 → ∀ k : Nat, (k : Int) < σ 0 5 → ml' 16 k = zL (backZ σ k)) := by
  obtain ⟨n, hn, h31⟩ := wf_n hW
  obtain ⟨ml', p1, p2, p3, p4⟩ := B_out (nb := nb) (db := db) (by_ := by_) (rs := rs) (c := c) (ml := ml) hbb hW hB hn 0 (by omega) (nI 0) ml rfl (fun _ _ => rfl)
  refine ⟨ml', g_sg_findBacks_0 hbb p1, p2, fun hl k hk => ?_⟩
  have e : sL (bkV σ mi k) n = zL (sumZ (bkF σ k) n) := sL_z n (fun i hi => by
    unfold bkV bkF
    by_cases h : bt (plS σ i) k = 1
    · rw [if_pos h, if_pos h]
      have hz := netZ_bd hW i
      have h2 : ¬ bt (loB σ) i = 1 ∨ los σ = 1 := by
        by_cases h3 : bt (loB σ) i = 1
        · right
          have := los_pos (show i < 32 by omega) h3
          omega
        · exact Or.inl h3
      rw [hN i (by omega) h2, zI_l ⟨by omega, by omega⟩]
    · rw [if_neg h, if_neg h]; rfl)
  rw [p4 k (by omega) (by omega), e, hA, bk_n hn, show lN 4 = zL 4 from rfl, show lN 2 = zL 2 from rfl, zL_mul, zL_mul, zL_sub]
/-! the reference -/
def RK (σ : SG) (mj : MI) : Prop := WF σ ∧ RMs σ mj ∧ RMb σ mj ∧ σ 0 0 = 1 ∧ ∀ k : Nat, (k : Int) < σ 0 5 → ¬ bt (loB σ) k = 1 → mj 60 k = zI (rdg σ k)
theorem R_netSum (K : RK σ mj) : Ret m_r_netSum [vR 19 0 48] (some (vI (zI (netS σ)))) c (MRc nb db by_ rs) mj mk mj mk := by
  obtain ⟨hW, hs, hB, hr, hR⟩ := K
  obtain ⟨n, hn, h31⟩ := wf_n hW
  have h0 := hs.n hn
  have k7 := (hs.dtk hr).2.1
  have eS : netS σ = sumZ (netF σ) n := by unfold netS; rw [show (σ 0 5).toNat = n by omega]
  rw [eS]
  refine g_r_netSum_0 ?_
  have key : ∀ k, k ≤ n → ∀ i a, i = nI k → a = zI (sumZ (netF σ) k) → Go m_r_netSum 4 [some (vR 19 0 48), some (vI a), some (vI i)] [] (some (vI (zI (sumZ (netF σ) n)))) c (MRc nb db by_ rs) mj mk mj mk := by
    refine upto ?_ ?_
    · intro i a hi ha
      exact g_r_netSum_4 ⟨fun _ => ⟨by rw [ha], rfl, rfl⟩, fun h => absurd (lp_d h0 hi) h⟩
    · intro k hk ih i a hi ha
      refine g_r_netSum_4 ⟨fun h => absurd h (lp_g h0 hi hk (by omega)), fun _ => ⟨_, R_has (RMs.lob hW hs) hi (lo_lt hW) (by omega), fun g => ih _ _ (inc hi) ?_, fun g => ⟨ixn hi (by omega) (by decide), ih _ _ (inc hi) ?_⟩⟩⟩
      · rw [bt_r, Classical.not_not] at g
        show a = zI (sumZ (netF σ) k + netF σ k)
        rw [show netF σ k = 0 from if_pos g, Int.add_zero, ha]
      · rw [bt_r] at g
        show _ = zI (sumZ (netF σ) k + netF σ k)
        rw [show netF σ k = _ from if_neg g, ha, cln hi (by omega), hR k (by omega) g, k7, zI_sub, zI_add]
  exact key 0 (by omega) _ _ rfl rfl
theorem M_half (hW : WF σ) (hs : RMs σ mj) : (mj 48 5 + nI 1) / nI 2 * zI (mon σ) = zI (whl σ) := by
  obtain ⟨n, hn, h31⟩ := wf_n hW
  rw [hs.n hn, nI_add, pk_div (by omega) (by decide) (by decide), nI_z, zI_mul]
  unfold whl
  rw [show (σ 0 5).toNat = n by omega]
theorem R_netOf (K : RK σ mj) {i : Nat} (hx : x = nI i) (hi : (i : Int) < σ 0 5) : Ret m_r_netOf [vR 19 0 48, vI x] (some (vI (zI (netZ σ i)))) c (MRc nb db by_ rs) mj mk mj mk := by
  have K' := K
  obtain ⟨hW, hs, hB, hr, hR⟩ := K
  have h31 := InK.n31 hW hi
  refine g_r_netOf_0 ⟨_, R_has (RMs.lob hW hs) hx (lo_lt hW) (by omega), fun g => ⟨ixn hx (by omega) (by decide), ?_, rfl, rfl⟩, fun g => ⟨_, R_rmonitor hW hs hB, _, R_netSum K', ?_, rfl, rfl⟩⟩
  · rw [bt_r] at g
    rw [show netZ σ i = _ from if_neg g, cln hx (by omega), hR i hi g, (hs.dtk hr).2.1, zI_sub]
  · rw [bt_r, Classical.not_not] at g
    rw [show netZ σ i = _ from if_pos g, M_half hW hs, zI_sub]
theorem R_netAll (K : RK σ mj) : Ret m_r_netAll [vR 19 0 48] (some (vI (zI (netA σ)))) c (MRc nb db by_ rs) mj mk mj mk := by
  have K' := K
  obtain ⟨hW, hs, hB, hr, hR⟩ := K
  have hl := los_le (σ := σ)
  refine g_r_netAll_0 ⟨_, R_losses hW hs, fun g => ⟨_, R_netSum K', ?_, rfl, rfl⟩, fun g => ⟨_, R_rmonitor hW hs hB, ?_, rfl, rfl⟩⟩
  · rw [nI_eq (by omega) (by decide)] at g
    rw [show netA σ = _ from if_neg g]
  · rw [nI_eq (by omega) (by decide)] at g
    rw [show netA σ = _ from if_pos g, M_half hW hs]
theorem R_partsOf (K : RK σ mj) {j : Nat} (hx : x = nI j) (hj : (j : Int) < σ 0 5) : Ret m_r_partsOf [vR 19 0 48, vI x] (some (vL (zL (backZ σ j)))) c (MRc nb db by_ rs) mj mk mj mk := by
  have K' := K
  obtain ⟨hW, hs, hB, hr, hR⟩ := K
  obtain ⟨n, hn, h31⟩ := wf_n hW
  have h0 := hs.n hn
  have hA := netA_bd hW
  refine g_r_partsOf_0 ?_
  have key : ∀ k, k ≤ n → ∀ (i : Int32) (a : Int64), i = nI k → a = zL (sumZ (bkF σ j) k) → Go m_r_partsOf 5 [some (vR 19 0 48), some (vI x), some (vL a), none, some (vI i)] [] (some (vL (zL (backZ σ j)))) c (MRc nb db by_ rs) mj mk mj mk := by
    refine upto ?_ ?_
    · intro i a hi ha
      refine g_r_partsOf_5 ⟨fun _ => ⟨_, R_netAll K', ?_, rfl, rfl⟩, fun h => absurd (lp_d h0 hi) h⟩
      rw [ha, zI_l ⟨by omega, by omega⟩, bk_n hn, show lN 4 = zL 4 from rfl, show lN 2 = zL 2 from rfl, zL_mul, zL_mul, zL_sub]
    · intro k hk ih i a hi ha
      have hz := netZ_bd hW k
      refine g_r_partsOf_5 ⟨fun h => absurd h (lp_g h0 hi hk (by omega)), fun _ => ⟨ixn hi (by omega) (by decide), _, R_has (by rw [cln hi (by omega)]; exact hB.1 k (by omega)) hx (plS_lt hW k) (by omega), fun g => ih _ _ (inc hi) ?_, fun g => ⟨_, R_netOf K' hi (by omega), ih _ _ (inc hi) ?_⟩⟩⟩
      · have g : ¬ bt (plS σ k) j = 1 := bt_r.mp g
        show a = zL (sumZ (bkF σ j) k + bkF σ j k)
        rw [show bkF σ j k = 0 from if_neg g, Int.add_zero, ha]
      · have g : bt (plS σ k) j = 1 := Classical.not_not.mp (fun z => g (bt_r.mpr z))
        show _ = zL (sumZ (bkF σ j) k + bkF σ j k)
        rw [show bkF σ j k = _ from if_pos g, ha, zI_l ⟨by omega, by omega⟩, zL_add]
  exact key 0 (by omega) _ _ rfl rfl
theorem RMs.nL (hW : WF σ) (hs : RMs σ mj) : (mj 48 5).toInt64 + lN 1 = zL (σ 0 5 + 1) := by
  have := hW.nn
  rw [hs.2.2.1, zI_l ⟨by omega, by omega⟩, show lN 1 = zL 1 from rfl, zL_add]
theorem RMs.nI1 (hW : WF σ) (hs : RMs σ mj) : (mj 48 5 + nI 1).toInt64 = zL (σ 0 5 + 1) := by
  have := hW.nn
  rw [hs.2.2.1, show nI 1 = zI 1 from rfl, zI_add, zI_l ⟨by omega, by omega⟩]
theorem RCb.nI1 (hW : WF σ) (hB : RCb σ b mi) : (mi b 0 + nI 1).toInt64 = zL (σ 0 5 + 1) := by
  have := hW.nn
  rw [hB.1, show nI 1 = zI 1 from rfl, zI_add, zI_l ⟨by omega, by omega⟩]
theorem R_errorParts (K : RK σ mj) {j : Nat} (hx : x = nI j) (hj : (j : Int) < σ 0 5) : Ret m_r_errorParts [vR 19 0 48, vI x] (some (vL (zL (errZ σ j)))) c (MRc nb db by_ rs) mj mk mj mk := by
  have K' := K
  obtain ⟨hW, hs, hB, hr, hR⟩ := K
  have h31 := InK.n31 hW hj
  have hl := hW.lights j
  refine g_r_errorParts_0 ⟨_, R_partsOf K' hx hj, ixn hx (by omega) (by decide), ?_, rfl, rfl⟩
  rw [hs.nL hW, cln hx (by omega), hB.2.1 j hj, zI_l ⟨by omega, by omega⟩, zL_mul, zL_sub]; rfl
theorem R_errorOf (hbb : b = 43 ∨ b = 5) (hW : WF σ) (hB : RCb σ b mi) {j : Nat} (hx : x = nI j) (hj : (j : Int) < σ 0 5) (hb : ml 16 j = zL (backZ σ j)) : Ret m_sg_errorOf [vR 14 0 11, vR 13 0 b, vI x] (some (vL (zL (errZ σ j)))) c (MRc nb db by_ rs) mi ml mi ml := by
  obtain ⟨n, hn, h31⟩ := wf_n hW
  have hl := hW.lights j
  refine g_sg_errorOf_0 hbb ⟨fun g => absurd g ?_, fun _ => ⟨fun g => absurd g (lp_g (hB.n hn) hx (by omega) (by omega)), fun _ => ⟨ixn hx (by omega) (by decide), ixn hx (by omega) (by decide), ?_, rfl, rfl⟩⟩⟩
  · rw [hx]; exact nI_pos (by omega)
  · rw [cln hx (by omega), hb, hB.li hj, hB.nI1 hW, zI_l ⟨by omega, by omega⟩, zL_mul, zL_sub, Int.mul_comm]; rfl
end
