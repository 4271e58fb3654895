/-! ===== the law's loop and its start ===== -/
theorem lw_ex {L i : Nat} (hL : L ≤ 3072) (hi : i ≤ 4000) : nI L - nI 6 < nI i ↔ L < i + 6 := by
  have e : nI L - nI 6 = zI ((L : Int) - 6) := by
    rw [nI_z, nI_z]
    exact (Int32.ofInt_sub _ _).symm
  rw [e, Int32.lt_iff_toInt_lt, zI_toInt ⟨by omega, by omega⟩, nI_toInt (by omega)]
  omega
set_option maxRecDepth 100000 in
theorem LW {L : Nat} (hL : L ≤ 3072) {s : Nat → Int32} : ∀ (n i f k s0 c : Nat) (mr : MR) (mi : MI) (ml : ML) (l4 : Int32), L ≤ i + 6 * n → i ≤ 3080 → l4 = nI i → f + n ≤ k → 49152 * f + 6 * n ≤ s0 → LI f s c mr mi ml →
    At m_l_law 23 [some (vR 104 L 0), some (vR 10 0 1), some (vR 19 0 48), some (vR 1 1 66), some (vI l4), none, none] [] k s0 (Zq QW) c mr mi ml := by
  have exit_ : ∀ (i k s0 c : Nat) (mr : MR) (mi : MI) (ml : ML) (l4 : Int32), L < i + 6 → i ≤ 3080 → l4 = nI i → At m_l_law 23 [some (vR 104 L 0), some (vR 10 0 1), some (vR 19 0 48), some (vR 1 1 66), some (vI l4), none, none] [] k s0 (Zq QW) c mr mi ml := by
    intro i k s0 c mr mi ml l4 h hi hl
    have g : nI L - nI 6 < l4 := by rw [hl]; exact (lw_ex hL (by omega)).mpr h
    refine at_wq inlT 400 rfl ?_
    refine ⟨fun _ => ?_, fun z => absurd g z⟩
    refine ⟨Or.inr rfl, ?_⟩
    exact rfl
  intro n
  induction n with
  | zero =>
    intro i f k s0 c mr mi ml l4 h hi hl hk hs0 H
    exact exit_ i k s0 c mr mi ml l4 (by omega) hi hl
  | succ n ih =>
    intro i f k s0 c mr mi ml l4 h hi hl hk hs0 H
    by_cases hx : L < i + 6
    · exact exit_ i k s0 c mr mi ml l4 hx hi hl
    · have K : KL L n s l4 := fun f k s0 c mr mi ml h1 h2 H => ih (i + 6) f k s0 c mr mi ml (l4 + nI 6) (by omega) (by omega) (by rw [hl, nI_add]) h1 h2 H
      have ix : ∀ j, j ≤ 5 → vp_in (l4 + nI j) L := fun j hj => ixn (by rw [hl, nI_add]) (show i + j < L by omega) (by omega)
      have g : ¬ nI L - nI 6 < l4 := by rw [hl]; exact fun z => hx ((lw_ex hL (by omega)).mp z)
      refine at_wq inlT 400 rfl ?_
      refine ⟨fun z => absurd z g, fun _ => ?_⟩
      refine ⟨ixn hl (show i < L by omega) (by omega), ?_⟩
      refine at_tbl lawT 1778 53 dc_law rfl (by decide) (fun j tg hj hxj => ?_) (fun _ => ?_)
      rotate_left
      · refine at_wq inlT 400 rfl ?_
        exact K _ _ _ _ _ _ _ (by omega) (by omega) H
      clear hxj
      obtain ⟨hlt, -⟩ := List.getElem?_eq_some_iff.mp hj
      have hlt : j < 53 := hlt
      have hc : j = 0 ∨ j = 1 ∨ j = 2 ∨ j = 3 ∨ j = 4 ∨ j = 5 ∨ j = 6 ∨ j = 7 ∨ j = 8 ∨ j = 9 ∨ j = 10 ∨ j = 11 ∨ j = 12 ∨ j = 13 ∨ j = 14 ∨ j = 15 ∨ j = 16 ∨ j = 17 ∨ j = 18 ∨ j = 19 ∨ j = 20 ∨ j = 21 ∨ j = 22 ∨ j = 23 ∨ j = 24 ∨ j = 25 ∨ j = 26 ∨ j = 27 ∨ j = 28 ∨ j = 29 ∨ j = 30 ∨ j = 31 ∨ j = 32 ∨ j = 33 ∨ j = 34 ∨ j = 35 ∨ j = 36 ∨ j = 37 ∨ j = 38 ∨ j = 39 ∨ j = 40 ∨ j = 41 ∨ j = 42 ∨ j = 43 ∨ j = 44 ∨ j = 45 ∨ j = 46 ∨ j = 47 ∨ j = 48 ∨ j = 49 ∨ j = 50 ∨ j = 51 ∨ j = 52 := by omega
      rcases hc with h | h | h | h | h | h | h | h | h | h | h | h | h | h | h | h | h | h | h | h | h | h | h | h | h | h | h | h | h | h | h | h | h | h | h | h | h | h | h | h | h | h | h | h | h | h | h | h | h | h | h | h | h
      · subst h
        have e : tg = 268 := Option.some.inj (hj.symm.trans (show lawT[0]? = some 268 from rfl))
        subst e
        exact LC_0 K ix (by omega) (by omega) H
      · subst h
        have e : tg = 341 := Option.some.inj (hj.symm.trans (show lawT[1]? = some 341 from rfl))
        subst e
        exact LC_1 K ix (by omega) (by omega) H
      · subst h
        have e : tg = 366 := Option.some.inj (hj.symm.trans (show lawT[2]? = some 366 from rfl))
        subst e
        exact LC_2 K ix (by omega) (by omega) H
      · subst h
        have e : tg = 379 := Option.some.inj (hj.symm.trans (show lawT[3]? = some 379 from rfl))
        subst e
        exact LC_3 K ix (by omega) (by omega) H
      · subst h
        have e : tg = 392 := Option.some.inj (hj.symm.trans (show lawT[4]? = some 392 from rfl))
        subst e
        exact LC_4 K ix (by omega) (by omega) H
      · subst h
        have e : tg = 417 := Option.some.inj (hj.symm.trans (show lawT[5]? = some 417 from rfl))
        subst e
        exact LC_5 K ix (by omega) (by omega) H
      · subst h
        have e : tg = 442 := Option.some.inj (hj.symm.trans (show lawT[6]? = some 442 from rfl))
        subst e
        exact LC_6 K ix (by omega) (by omega) H
      · subst h
        have e : tg = 479 := Option.some.inj (hj.symm.trans (show lawT[7]? = some 479 from rfl))
        subst e
        exact LC_7 K ix (by omega) (by omega) H
      · subst h
        have e : tg = 504 := Option.some.inj (hj.symm.trans (show lawT[8]? = some 504 from rfl))
        subst e
        exact LC_8 K ix (by omega) (by omega) H
      · subst h
        have e : tg = 529 := Option.some.inj (hj.symm.trans (show lawT[9]? = some 529 from rfl))
        subst e
        exact LC_9 K ix (by omega) (by omega) H
      · subst h
        have e : tg = 554 := Option.some.inj (hj.symm.trans (show lawT[10]? = some 554 from rfl))
        subst e
        exact LC_10 K ix (by omega) (by omega) H
      · subst h
        have e : tg = 579 := Option.some.inj (hj.symm.trans (show lawT[11]? = some 579 from rfl))
        subst e
        exact LC_11 K ix (by omega) (by omega) H
      · subst h
        have e : tg = 604 := Option.some.inj (hj.symm.trans (show lawT[12]? = some 604 from rfl))
        subst e
        exact LC_12 K ix (by omega) (by omega) H
      · subst h
        have e : tg = 629 := Option.some.inj (hj.symm.trans (show lawT[13]? = some 629 from rfl))
        subst e
        exact LC_13 K ix (by omega) (by omega) H
      · subst h
        have e : tg = 654 := Option.some.inj (hj.symm.trans (show lawT[14]? = some 654 from rfl))
        subst e
        exact LC_14 K ix (by omega) (by omega) H
      · subst h
        have e : tg = 679 := Option.some.inj (hj.symm.trans (show lawT[15]? = some 679 from rfl))
        subst e
        exact LC_15 K ix (by omega) (by omega) H
      · subst h
        have e : tg = 716 := Option.some.inj (hj.symm.trans (show lawT[16]? = some 716 from rfl))
        subst e
        exact LC_16 K ix (by omega) (by omega) H
      · subst h
        have e : tg = 729 := Option.some.inj (hj.symm.trans (show lawT[17]? = some 729 from rfl))
        subst e
        exact LC_17 K ix (by omega) (by omega) H
      · subst h
        have e : tg = 742 := Option.some.inj (hj.symm.trans (show lawT[18]? = some 742 from rfl))
        subst e
        exact LC_18 K ix (by omega) (by omega) H
      · subst h
        have e : tg = 767 := Option.some.inj (hj.symm.trans (show lawT[19]? = some 767 from rfl))
        subst e
        exact LC_19 K ix (by omega) (by omega) H
      · subst h
        have e : tg = 792 := Option.some.inj (hj.symm.trans (show lawT[20]? = some 792 from rfl))
        subst e
        exact LC_20 K ix (by omega) (by omega) H
      · subst h
        have e : tg = 846 := Option.some.inj (hj.symm.trans (show lawT[21]? = some 846 from rfl))
        subst e
        exact LC_21 K ix (by omega) (by omega) H
      · subst h
        have e : tg = 859 := Option.some.inj (hj.symm.trans (show lawT[22]? = some 859 from rfl))
        subst e
        exact LC_22 K ix (by omega) (by omega) H
      · subst h
        have e : tg = 901 := Option.some.inj (hj.symm.trans (show lawT[23]? = some 901 from rfl))
        subst e
        exact LC_23 K ix (by omega) (by omega) H
      · subst h
        have e : tg = 955 := Option.some.inj (hj.symm.trans (show lawT[24]? = some 955 from rfl))
        subst e
        exact LC_24 K ix (by omega) (by omega) H
      · subst h
        have e : tg = 997 := Option.some.inj (hj.symm.trans (show lawT[25]? = some 997 from rfl))
        subst e
        exact LC_25 K ix (by omega) (by omega) H
      · subst h
        have e : tg = 1010 := Option.some.inj (hj.symm.trans (show lawT[26]? = some 1010 from rfl))
        subst e
        exact LC_26 K ix (by omega) (by omega) H
      · subst h
        have e : tg = 1052 := Option.some.inj (hj.symm.trans (show lawT[27]? = some 1052 from rfl))
        subst e
        exact LC_27 K ix (by omega) (by omega) H
      · subst h
        have e : tg = 1094 := Option.some.inj (hj.symm.trans (show lawT[28]? = some 1094 from rfl))
        subst e
        exact LC_28 K ix (by omega) (by omega) H
      · subst h
        have e : tg = 1107 := Option.some.inj (hj.symm.trans (show lawT[29]? = some 1107 from rfl))
        subst e
        exact LC_29 K ix (by omega) (by omega) H
      · subst h
        have e : tg = 1132 := Option.some.inj (hj.symm.trans (show lawT[30]? = some 1132 from rfl))
        subst e
        exact LC_30 K ix (by omega) (by omega) H
      · subst h
        have e : tg = 1146 := Option.some.inj (hj.symm.trans (show lawT[31]? = some 1146 from rfl))
        subst e
        exact LC_31 K ix (by omega) (by omega) H
      · subst h
        have e : tg = 1159 := Option.some.inj (hj.symm.trans (show lawT[32]? = some 1159 from rfl))
        subst e
        exact LC_32 K ix (by omega) (by omega) H
      · subst h
        have e : tg = 1172 := Option.some.inj (hj.symm.trans (show lawT[33]? = some 1172 from rfl))
        subst e
        exact LC_33 K ix (by omega) (by omega) H
      · subst h
        have e : tg = 1197 := Option.some.inj (hj.symm.trans (show lawT[34]? = some 1197 from rfl))
        subst e
        exact LC_34 K ix (by omega) (by omega) H
      · subst h
        have e : tg = 1234 := Option.some.inj (hj.symm.trans (show lawT[35]? = some 1234 from rfl))
        subst e
        exact LC_35 K ix (by omega) (by omega) H
      · subst h
        have e : tg = 1259 := Option.some.inj (hj.symm.trans (show lawT[36]? = some 1259 from rfl))
        subst e
        exact LC_36 K ix (by omega) (by omega) H
      · subst h
        have e : tg = 1272 := Option.some.inj (hj.symm.trans (show lawT[37]? = some 1272 from rfl))
        subst e
        exact LC_37 K ix (by omega) (by omega) H
      · subst h
        have e : tg = 1285 := Option.some.inj (hj.symm.trans (show lawT[38]? = some 1285 from rfl))
        subst e
        exact LC_38 K ix (by omega) (by omega) H
      · subst h
        have e : tg = 1339 := Option.some.inj (hj.symm.trans (show lawT[39]? = some 1339 from rfl))
        subst e
        exact LC_39 K ix (by omega) (by omega) H
      · subst h
        have e : tg = 1405 := Option.some.inj (hj.symm.trans (show lawT[40]? = some 1405 from rfl))
        subst e
        exact LC_40 K ix (by omega) (by omega) H
      · subst h
        have e : tg = 1459 := Option.some.inj (hj.symm.trans (show lawT[41]? = some 1459 from rfl))
        subst e
        exact LC_41 K ix (by omega) (by omega) H
      · subst h
        have e : tg = 1472 := Option.some.inj (hj.symm.trans (show lawT[42]? = some 1472 from rfl))
        subst e
        exact LC_42 K ix (by omega) (by omega) H
      · subst h
        have e : tg = 1485 := Option.some.inj (hj.symm.trans (show lawT[43]? = some 1485 from rfl))
        subst e
        exact LC_43 K (by omega) (by omega) H
      · subst h
        have e : tg = 1498 := Option.some.inj (hj.symm.trans (show lawT[44]? = some 1498 from rfl))
        subst e
        exact LC_44 K ix (by omega) (by omega) H
      · subst h
        have e : tg = 1523 := Option.some.inj (hj.symm.trans (show lawT[45]? = some 1523 from rfl))
        subst e
        exact LC_45 K ix (by omega) (by omega) H
      · subst h
        have e : tg = 1572 := Option.some.inj (hj.symm.trans (show lawT[46]? = some 1572 from rfl))
        subst e
        exact LC_46 K ix (by omega) (by omega) H
      · subst h
        have e : tg = 1609 := Option.some.inj (hj.symm.trans (show lawT[47]? = some 1609 from rfl))
        subst e
        exact LC_47 K ix (by omega) (by omega) H
      · subst h
        have e : tg = 1646 := Option.some.inj (hj.symm.trans (show lawT[48]? = some 1646 from rfl))
        subst e
        exact LC_48 K ix (by omega) (by omega) H
      · subst h
        have e : tg = 1671 := Option.some.inj (hj.symm.trans (show lawT[49]? = some 1671 from rfl))
        subst e
        exact LC_49 K ix (by omega) (by omega) H
      · subst h
        have e : tg = 1684 := Option.some.inj (hj.symm.trans (show lawT[50]? = some 1684 from rfl))
        subst e
        exact LC_50 K ix hk hs0 H
      · subst h
        have e : tg = 1740 := Option.some.inj (hj.symm.trans (show lawT[51]? = some 1740 from rfl))
        subst e
        exact LC_51 K ix (by omega) (by omega) H
      · subst h
        have e : tg = 1765 := Option.some.inj (hj.symm.trans (show lawT[52]? = some 1765 from rfl))
        subst e
        exact LC_52 K ix (by omega) (by omega) H
/-- the memory after both constructors -/
def st_R : MR := z2 (i_r48_R (z2 (i_w1_R (z2 (fun _ _ => none) 1 none)) 48 none)) 66 none
def st_I (mi : MI) : MI := z2 (i_r48_I (z2 (i_w1_I (z2 mi 1 0)) 48 0)) 66 0
def st_L : ML := z2 (i_r48_L (z2 (i_w1_L (z2 (fun _ _ => 0) 1 0)) 48 0)) 66 0
theorem st_sup : Sup st_R := by
  unfold st_R i_r48_R i_w1_R i_tp2_R i_rd4_R i_bn5_R i_sg11_R i_su17_R i_mt19_R i_tr35_R i_ac39_R i_bn43_R
  repeat first | exact Sup.n | refine Sup.u ?_ rfl rfl | refine Sup.z ?_ | refine Sup.m ?_ rfl rfl
theorem st_grid : ∀ a, a < 67 → ∀ k, k < 64 → st_R a k = MRc 43 5 (some (0, 0, 10)) (some (0, 0, 38)) a k := by decide +kernel
theorem st_mr : st_R = MRc 43 5 (some (0, 0, 10)) (some (0, 0, 38)) := mr_eq st_sup Sup.c st_grid
theorem gw0 : gw 0 ≤ 13 := by decide
theorem LI_start (mi : MI) : LI 13 (mi 0) 67 st_R (st_I mi) st_L := by
  have v0 : ∀ i : Nat, ¬ (i : Int) < (fun _ _ => 0 : SG) 0 0 := fun i h => by
    have h : (i : Int) < 0 := h
    omega
  have n1 : ¬ (0 : Int) = 1 := by decide
  refine ⟨(fun _ _ => 0), 43, 5, some (0, 0, 10), 0, 38, Or.inl ⟨rfl, rfl⟩, st_mr, ?_, ?_, fun z => absurd z n1, ⟨Or.inl rfl, fun z => absurd (show (nI 0 : Int32) = 1 from z) (by decide)⟩, Or.inl ⟨rfl, rfl⟩, by decide, gw0, rfl⟩
  · exact ⟨⟨PW_0.1, ⟨rfl, rfl, rfl, fun z => absurd z (by decide), rfl, fun k hk => absurd hk (v0 k), rfl, rfl, rfl, rfl, rfl⟩, fun z => absurd z n1⟩, fun i hi => absurd hi (v0 i), fun i hi => absurd hi (v0 i), fun z => absurd z n1, fun i hi => absurd hi (v0 i), fun i hi => absurd hi (v0 i)⟩
  · refine ⟨⟨PW_0.1, ⟨rfl, ?_, rfl, rfl, rfl, rfl, rfl, rfl, rfl, rfl, rfl, rfl, fun k hk => absurd hk (v0 k), fun z => absurd z n1, rfl⟩, ⟨fun i hi => absurd hi (v0 i), fun i hi => absurd hi (v0 i), fun i hi => absurd hi (v0 i), fun i hi => absurd hi (v0 i), fun i hi => absurd hi (v0 i)⟩⟩, fun i hi => absurd hi (v0 i), fun z => absurd z n1, fun d d0 hd => ?_⟩
    · show -(nI 1) = if (0 : Int) = 4 then zI 0 else zI (-1)
      rw [if_neg (by decide)]; rfl
    · have hd : (d : Int) ≤ 0 := hd
      omega
set_option maxRecDepth 100000 in
theorem LAW (L : Nat) (mi : MI) (hL : L ≤ 3072) : At m_l_law 0 [some (vR 104 L 0), none, none, none, none, none, none] [] 601024 7293034 (Zq (fun r _ _ _ _ => r = some (vI 1))) 1 (fun _ _ => none) mi (fun _ _ => 0) := by
  show At m_l_law 0 [some (vR 104 L 0), none, none, none, none, none, none] [] 601024 7293034 (Zq QW) 1 (fun _ _ => none) mi (fun _ _ => 0)
  refine at_wq inlT 400 rfl ?_
  refine ⟨46, 2008, by decide, by decide, i_w1 ?_⟩
  refine ⟨17, 51995, by decide, by decide, i_r48 ?_⟩
  refine ⟨1, rfl, by decide, by decide, by decide, ?_⟩
  exact LW hL 512 0 13 _ _ 67 st_R (st_I mi) st_L (nI 0) (by omega) (by decide) rfl (by decide) (by decide) (LI_start mi)
