/-! ===== constructors, laid by wip/whole/genini.py ===== -/
theorem mt_dec : decode (mCd m_mt_init) 32 = .ok (.multianewarray 26 2, 4) := by decide +kernel
theorem mt_lnk : Cond.classLink (mNm m_mt_init).cls 26 ("[" ++ (FieldType.array .long).toString) ∈ WT := by decide +kernel
def i_tp2_R (mr : MR) : MR := u2 (z2 (mr) 3 none) 2 0 (some (0, 800, 3))
def i_tp2_I (mi : MI) : MI := u2 (z2 (mi) 3 0) 2 1 (nI 0)
def i_tp2_L (ml : ML) : ML := z2 (ml) 3 0
theorem i_tp2 {Q : Option AV → HP} {mr : MR} {mi : MI} {ml : ML} (hQ : Q none 4 (i_tp2_R mr) (i_tp2_I mi) (i_tp2_L ml)) : Ok m_tp_init 1 800 [vR 11 0 2] Q 3 mr mi ml := by
  refine ok_wq inlT 400 rfl rfl ?_
  refine ⟨800, rfl, by decide, by decide, by decide, ?_⟩
  exact hQ
def i_bn5_R (mr : MR) : MR := u2 (z2 (u2 (z2 (u2 (z2 (u2 (z2 (mr) 6 none) 5 8 (some (0, 31, 6))) 7 none) 5 9 (some (0, 31, 7))) 8 none) 5 10 (some (0, 31, 8))) 9 none) 5 11 (some (0, 12, 9))
def i_bn5_I (mi : MI) : MI := z2 (z2 (z2 (z2 (u2 (u2 (u2 (u2 (u2 (u2 (u2 (u2 (mi) 5 0 (nI 0)) 5 1 (nI 0)) 5 2 (nI 0)) 5 3 (nI 0)) 5 4 (nI 0)) 5 5 (nI 0)) 5 6 (nI 0)) 5 7 (nI 0)) 6 0) 7 0) 8 0) 9 0
def i_bn5_L (ml : ML) : ML := z2 (z2 (z2 (z2 (ml) 6 0) 7 0) 8 0) 9 0
theorem i_bn5 {Q : Option AV → HP} {mr : MR} {mi : MI} {ml : ML} (hQ : Q none 10 (i_bn5_R mr) (i_bn5_I mi) (i_bn5_L ml)) : Ok m_bn_init 4 105 [vR 13 0 5] Q 6 mr mi ml := by
  refine ok_wq inlT 400 rfl rfl ?_
  refine ⟨31, rfl, by decide, by decide, by decide, ?_⟩
  refine ⟨31, rfl, by decide, by decide, by decide, ?_⟩
  refine ⟨31, rfl, by decide, by decide, by decide, ?_⟩
  refine ⟨12, rfl, by decide, by decide, by decide, ?_⟩
  exact hQ
def i_rd4_R (mr : MR) : MR := u2 (z2 (u2 (i_bn5_R (z2 (mr) 5 none)) 4 2 (some (13, 0, 5))) 10 none) 4 3 (some (0, 0, 10))
def i_rd4_I (mi : MI) : MI := u2 (u2 (u2 (u2 (u2 (u2 (u2 (u2 (z2 (i_bn5_I (z2 (u2 (u2 (mi) 4 0 (nI 0)) 4 1 (nI 0)) 5 0)) 10 0) 4 4 (nI 0)) 4 5 (nI 0)) 4 6 (nI 0)) 4 7 (nI 0)) 4 8 (nI 0)) 4 9 (nI 0)) 4 10 (nI 0)) 4 11 (nI 0)
def i_rd4_L (ml : ML) : ML := z2 (i_bn5_L (z2 (ml) 5 0)) 10 0
theorem i_rd4 {Q : Option AV → HP} {mr : MR} {mi : MI} {ml : ML} (hQ : Q none 11 (i_rd4_R mr) (i_rd4_I mi) (i_rd4_L ml)) : Ok m_rd_init 6 117 [vR 12 0 4] Q 5 mr mi ml := by
  refine ok_wq inlT 400 rfl rfl ?_
  refine ⟨4, 105, by decide, by decide, i_bn5 ?_⟩
  refine ⟨0, rfl, by decide, by decide, by decide, ?_⟩
  exact hQ
def i_sg11_R (mr : MR) : MR := u2 (z2 (u2 (z2 (u2 (z2 (u2 (z2 (u2 (z2 (mr) 12 none) 11 5 (some (0, 20, 12))) 13 none) 11 6 (some (0, 20, 13))) 14 none) 11 7 (some (0, 31, 14))) 15 none) 11 8 (some (0, 31, 15))) 16 none) 11 9 (some (1, 31, 16))
def i_sg11_I (mi : MI) : MI := z2 (z2 (z2 (z2 (z2 (u2 (u2 (u2 (u2 (mi) 11 0 (nI 0)) 11 1 (nI 0)) 11 2 (nI 0)) 11 3 (nI 0)) 12 0) 13 0) 14 0) 15 0) 16 0
def i_sg11_L (ml : ML) : ML := z2 (z2 (z2 (z2 (z2 (u2 (ml) 11 4 (lN 0)) 12 0) 13 0) 14 0) 15 0) 16 0
theorem i_sg11 {Q : Option AV → HP} {mr : MR} {mi : MI} {ml : ML} (hQ : Q none 17 (i_sg11_R mr) (i_sg11_I mi) (i_sg11_L ml)) : Ok m_sg_init 5 133 [vR 14 0 11] Q 12 mr mi ml := by
  refine ok_wq inlT 400 rfl rfl ?_
  refine ⟨Or.inl rfl, ?_⟩
  refine ⟨20, rfl, by decide, by decide, by decide, ?_⟩
  refine ⟨20, rfl, by decide, by decide, by decide, ?_⟩
  refine ⟨31, rfl, by decide, by decide, by decide, ?_⟩
  refine ⟨31, rfl, by decide, by decide, by decide, ?_⟩
  refine ⟨31, rfl, by decide, by decide, by decide, ?_⟩
  exact hQ
def i_su17_R (mr : MR) : MR := u2 (z2 (mr) 18 none) 17 0 (some (0, 31, 18))
def i_su17_I (mi : MI) : MI := z2 (mi) 18 0
def i_su17_L (ml : ML) : ML := z2 (ml) 18 0
theorem i_su17 {Q : Option AV → HP} {mr : MR} {mi : MI} {ml : ML} (hQ : Q none 19 (i_su17_R mr) (i_su17_I mi) (i_su17_L ml)) : Ok m_su_init 1 31 [vR 15 0 17] Q 18 mr mi ml := by
  refine ok_wq inlT 400 rfl rfl ?_
  refine ⟨31, rfl, by decide, by decide, by decide, ?_⟩
  exact hQ
def i_mt19_R (mr : MR) : MR := u2 (z2 (u2 (mM (u2 (z2 (mr) 20 none) 19 3 (some (0, 31, 20))) 21 12 43) 19 4 (some (3, 12, 21))) 34 none) 19 5 (some (0, 12, 34))
def i_mt19_I (mi : MI) : MI := z2 (zM (z2 (u2 (u2 (mi) 19 0 (nI 0)) 19 1 (nI 0)) 20 0) 21 12 0) 34 0
def i_mt19_L (ml : ML) : ML := z2 (zM (z2 (u2 (ml) 19 2 (lN 1)) 20 0) 21 12 0) 34 0
theorem i_mt19 {Q : Option AV → HP} {mr : MR} {mi : MI} {ml : ML} (hQ : Q none 35 (i_mt19_R mr) (i_mt19_I mi) (i_mt19_L ml)) : Ok m_mt_init 15 571 [vR 16 0 19] Q 20 mr mi ml := by
  refine ok_wq inlT 400 rfl rfl ?_
  refine ⟨31, rfl, by decide, by decide, by decide, ?_⟩
  refine at_mna (N := 12) (K := 43) mt_dec (by decide) (by decide) mt_lnk (by decide) (by decide) ?_
  refine at_wq inlT 400 rfl ?_
  refine ⟨12, rfl, by decide, by decide, by decide, ?_⟩
  exact hQ
def i_tr35_R (mr : MR) : MR := u2 (z2 (u2 (z2 (u2 (z2 (mr) 36 none) 35 2 (some (0, 12, 36))) 37 none) 35 3 (some (0, 156, 37))) 38 none) 35 4 (some (0, 0, 38))
def i_tr35_I (mi : MI) : MI := u2 (z2 (z2 (z2 (u2 (u2 (mi) 35 0 (nI 0)) 35 1 (nI 0)) 36 0) 37 0) 38 0) 35 5 (nI 0)
def i_tr35_L (ml : ML) : ML := z2 (z2 (z2 (ml) 36 0) 37 0) 38 0
theorem i_tr35 {Q : Option AV → HP} {mr : MR} {mi : MI} {ml : ML} (hQ : Q none 39 (i_tr35_R mr) (i_tr35_I mi) (i_tr35_L ml)) : Ok m_tr_init 3 168 [vR 17 0 35] Q 36 mr mi ml := by
  refine ok_wq inlT 400 rfl rfl ?_
  refine ⟨Or.inl rfl, ?_⟩
  refine ⟨12, rfl, by decide, by decide, by decide, ?_⟩
  refine ⟨156, rfl, by decide, by decide, by decide, ?_⟩
  refine ⟨0, rfl, by decide, by decide, by decide, ?_⟩
  exact hQ
def i_ac39_R (mr : MR) : MR := u2 (z2 (u2 (z2 (u2 (z2 (mr) 40 none) 39 1 (some (0, 10, 40))) 41 none) 39 2 (some (0, 10, 41))) 42 none) 39 3 (some (0, 10, 42))
def i_ac39_I (mi : MI) : MI := z2 (z2 (z2 (u2 (mi) 39 0 (nI 0)) 40 0) 41 0) 42 0
def i_ac39_L (ml : ML) : ML := z2 (z2 (z2 (ml) 40 0) 41 0) 42 0
theorem i_ac39 {Q : Option AV → HP} {mr : MR} {mi : MI} {ml : ML} (hQ : Q none 43 (i_ac39_R mr) (i_ac39_I mi) (i_ac39_L ml)) : Ok m_ac_init 3 30 [vR 18 0 39] Q 40 mr mi ml := by
  refine ok_wq inlT 400 rfl rfl ?_
  refine ⟨10, rfl, by decide, by decide, by decide, ?_⟩
  refine ⟨10, rfl, by decide, by decide, by decide, ?_⟩
  refine ⟨10, rfl, by decide, by decide, by decide, ?_⟩
  exact hQ
def i_bn43_R (mr : MR) : MR := u2 (z2 (u2 (z2 (u2 (z2 (u2 (z2 (mr) 44 none) 43 8 (some (0, 31, 44))) 45 none) 43 9 (some (0, 31, 45))) 46 none) 43 10 (some (0, 31, 46))) 47 none) 43 11 (some (0, 12, 47))
def i_bn43_I (mi : MI) : MI := z2 (z2 (z2 (z2 (u2 (u2 (u2 (u2 (u2 (u2 (u2 (u2 (mi) 43 0 (nI 0)) 43 1 (nI 0)) 43 2 (nI 0)) 43 3 (nI 0)) 43 4 (nI 0)) 43 5 (nI 0)) 43 6 (nI 0)) 43 7 (nI 0)) 44 0) 45 0) 46 0) 47 0
def i_bn43_L (ml : ML) : ML := z2 (z2 (z2 (z2 (ml) 44 0) 45 0) 46 0) 47 0
theorem i_bn43 {Q : Option AV → HP} {mr : MR} {mi : MI} {ml : ML} (hQ : Q none 48 (i_bn43_R mr) (i_bn43_I mi) (i_bn43_L ml)) : Ok m_bn_init 4 105 [vR 13 0 43] Q 44 mr mi ml := by
  refine ok_wq inlT 400 rfl rfl ?_
  refine ⟨31, rfl, by decide, by decide, by decide, ?_⟩
  refine ⟨31, rfl, by decide, by decide, by decide, ?_⟩
  refine ⟨31, rfl, by decide, by decide, by decide, ?_⟩
  refine ⟨12, rfl, by decide, by decide, by decide, ?_⟩
  exact hQ
def i_w1_R (mr : MR) : MR := u2 (i_bn43_R (z2 (u2 (i_ac39_R (z2 (u2 (i_tr35_R (z2 (u2 (i_mt19_R (z2 (u2 (i_su17_R (z2 (u2 (i_sg11_R (z2 (u2 (i_rd4_R (z2 (u2 (i_tp2_R (z2 (mr) 2 none)) 1 0 (some (11, 0, 2))) 4 none)) 1 1 (some (12, 0, 4))) 11 none)) 1 2 (some (14, 0, 11))) 17 none)) 1 3 (some (15, 0, 17))) 19 none)) 1 4 (some (16, 0, 19))) 35 none)) 1 5 (some (17, 0, 35))) 39 none)) 1 6 (some (18, 0, 39))) 43 none)) 1 7 (some (13, 0, 43))
def i_w1_I (mi : MI) : MI := u2 (u2 (u2 (u2 (i_bn43_I (z2 (i_ac39_I (z2 (i_tr35_I (z2 (i_mt19_I (z2 (i_su17_I (z2 (i_sg11_I (z2 (i_rd4_I (z2 (i_tp2_I (z2 (mi) 2 0)) 4 0)) 11 0)) 17 0)) 19 0)) 35 0)) 39 0)) 43 0)) 1 8 (nI 0)) 1 9 (nI 0)) 1 10 (nI 0)) 1 11 (nI 0)
def i_w1_L (ml : ML) : ML := i_bn43_L (z2 (i_ac39_L (z2 (i_tr35_L (z2 (i_mt19_L (z2 (i_su17_L (z2 (i_sg11_L (z2 (i_rd4_L (z2 (i_tp2_L (z2 (ml) 2 0)) 4 0)) 11 0)) 17 0)) 19 0)) 35 0)) 39 0)) 43 0)
theorem i_w1 {Q : Option AV → HP} {mr : MR} {mi : MI} {ml : ML} (hQ : Q none 48 (i_w1_R mr) (i_w1_I mi) (i_w1_L ml)) : Ok m_w_init 46 2008 [vR 10 0 1] Q 2 mr mi ml := by
  refine ok_wq inlT 400 rfl rfl ?_
  refine ⟨1, 800, by decide, by decide, i_tp2 ?_⟩
  refine ⟨6, 117, by decide, by decide, i_rd4 ?_⟩
  refine ⟨5, 133, by decide, by decide, i_sg11 ?_⟩
  refine ⟨1, 31, by decide, by decide, i_su17 ?_⟩
  refine ⟨15, 571, by decide, by decide, i_mt19 ?_⟩
  refine ⟨3, 168, by decide, by decide, i_tr35 ?_⟩
  refine ⟨3, 30, by decide, by decide, i_ac39 ?_⟩
  refine ⟨4, 105, by decide, by decide, i_bn43 ?_⟩
  refine ⟨Or.inl rfl, ?_⟩
  exact hQ
def i_r48_R (mr : MR) : MR := u2 (z2 (u2 (z2 (u2 (z2 (u2 (z2 (u2 (z2 (u2 (z2 (u2 (z2 (u2 (z2 (u2 (z2 (u2 (z2 (u2 (z2 (u2 (z2 (u2 (z2 (u2 (z2 (u2 (z2 (u2 (z2 (u2 (z2 (mr) 49 none) 48 10 (some (0, 31, 49))) 50 none) 48 11 (some (0, 31, 50))) 51 none) 48 12 (some (0, 12, 51))) 52 none) 48 24 (some (0, 31, 52))) 53 none) 48 25 (some (0, 12, 53))) 54 none) 48 27 (some (0, 63, 54))) 55 none) 48 28 (some (0, 63, 55))) 56 none) 48 29 (some (0, 630, 56))) 57 none) 48 31 (some (2, 800, 57))) 58 none) 48 40 (some (0, 20, 58))) 59 none) 48 41 (some (0, 20, 59))) 60 none) 48 42 (some (0, 31, 60))) 61 none) 48 47 (some (1, 31, 61))) 62 none) 48 48 (some (1, 528, 62))) 63 none) 48 49 (some (1, 528, 63))) 64 none) 48 50 (some (0, 12, 64))) 65 none) 48 53 (some (0, 49152, 65))
def i_r48_I (mi : MI) : MI := z2 (z2 (z2 (z2 (z2 (z2 (z2 (z2 (z2 (z2 (z2 (z2 (z2 (z2 (z2 (z2 (z2 (u2 (mi) 48 2 (-(nI 1))) 49 0) 50 0) 51 0) 52 0) 53 0) 54 0) 55 0) 56 0) 57 0) 58 0) 59 0) 60 0) 61 0) 62 0) 63 0) 64 0) 65 0
def i_r48_L (ml : ML) : ML := z2 (z2 (z2 (z2 (z2 (z2 (z2 (z2 (z2 (z2 (z2 (z2 (z2 (z2 (z2 (z2 (z2 (ml) 49 0) 50 0) 51 0) 52 0) 53 0) 54 0) 55 0) 56 0) 57 0) 58 0) 59 0) 60 0) 61 0) 62 0) 63 0) 64 0) 65 0
theorem i_r48 {Q : Option AV → HP} {mr : MR} {mi : MI} {ml : ML} (hQ : Q none 66 (i_r48_R mr) (i_r48_I mi) (i_r48_L ml)) : Ok m_r_init 17 51995 [vR 19 0 48] Q 49 mr mi ml := by
  refine ok_wq inlT 400 rfl rfl ?_
  refine ⟨31, rfl, by decide, by decide, by decide, ?_⟩
  refine ⟨31, rfl, by decide, by decide, by decide, ?_⟩
  refine ⟨12, rfl, by decide, by decide, by decide, ?_⟩
  refine ⟨31, rfl, by decide, by decide, by decide, ?_⟩
  refine ⟨12, rfl, by decide, by decide, by decide, ?_⟩
  refine ⟨63, rfl, by decide, by decide, by decide, ?_⟩
  refine ⟨63, rfl, by decide, by decide, by decide, ?_⟩
  refine ⟨630, rfl, by decide, by decide, by decide, ?_⟩
  refine ⟨800, rfl, by decide, by decide, by decide, ?_⟩
  refine ⟨20, rfl, by decide, by decide, by decide, ?_⟩
  refine ⟨20, rfl, by decide, by decide, by decide, ?_⟩
  refine ⟨31, rfl, by decide, by decide, by decide, ?_⟩
  refine ⟨31, rfl, by decide, by decide, by decide, ?_⟩
  refine ⟨528, rfl, by decide, by decide, by decide, ?_⟩
  refine ⟨528, rfl, by decide, by decide, by decide, ?_⟩
  refine ⟨12, rfl, by decide, by decide, by decide, ?_⟩
  refine ⟨49152, rfl, by decide, by decide, by decide, ?_⟩
  exact hQ
