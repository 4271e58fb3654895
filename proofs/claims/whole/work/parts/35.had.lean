/-! ===== calls of what is had back ===== -/
def HB (σ : SG) : Prop := σ 0 12 = 1 ∧ los σ < 2
theorem Agr.mkL {yw yr : Nat} {as : List AV} {nb db : Nat} {by_ rs : RX} {mi : MI} {ml : ML} {mj : MI} {mk : ML} (v : AV) (w : Nat) (hw : w ≤ 5 ∧ w ≠ 4) {p q : Int64} (h1 : ∀ c, Ret yw (vR 10 0 1 :: as) (some v) c (MRc nb db by_ rs) mi ml (u2 mi 1 9 (nI w)) ml) (h2 : ∀ c, Ret yr (vR 19 0 48 :: as) (some v) c (MRc nb db by_ rs) mj mk (T3 mj w) (u2 (u2 mk 48 3 p) 48 4 q)) (hv : isV yw v = true := by rfl) : Agr yw yr as nb db by_ rs mi ml mj mk :=
  fun c => ⟨v, w, _, _, _, hw.1, hw.2, h1 c, h2 c, FCw.one _ _, FRw.one _ _, fun a ha => by rw [u2_o _ _ (by omega), u2_o _ _ (by omega)], hv⟩
/-- bits where it holds -/
def orB (p : Nat → Bool) : Nat → Int32
  | 0 => nI 0
  | j + 1 => if p j then orB p j ||| (nI 1 <<< (nI j &&& 31)) else orB p j
theorem orB_t {p : Nat → Bool} {j : Nat} {i a : Int32} (hi : i = nI j) (ha : a = orB p j) (h : p j = true) : a ||| (nI 1 <<< (i &&& 31)) = orB p (j + 1) := by
  rw [ha, hi]; exact (if_pos h).symm
theorem orB_f {p : Nat → Bool} {j : Nat} {a : Int32} (ha : a = orB p j) (h : ¬ p j = true) : a = orB p (j + 1) := by
  rw [ha]; exact (if_neg h).symm
section
variable {nb db b : Nat} {by_ rs : RX} {c : Nat} {σ : SG} {mi mj : MI} {ml mk : ML} {x j : Int32}
theorem IC.sc (I : IC σ nb mi) : mi 11 3 = zI (σ 0 12) := I.2.1.2.2.2.2.2.2.2.2.2.1
theorem RMs.sc (hs : RMs σ mj) : mj 48 46 = zI (σ 0 12) := hs.2.2.2.2.2.2.2.2.2.2.2.1
theorem sc0 {x : Int32} (hW : WF σ) (hx : x = zI (σ 0 12)) (h : ¬ σ 0 12 = 1) : x = 0 := by
  rcases hW.sc with z | z
  · rw [hx, z]; rfl
  · exact absurd z h
theorem sc1 {x : Int32} (hx : x = zI (σ 0 12)) (h : σ 0 12 = 1) : ¬ x = 0 := by rw [hx, h]; decide
theorem R_hbn (hb : nb = 43 ∧ db = 5 ∨ nb = 5 ∧ db = 43) (h : mi 1 8 = 0) : Ret m_w_haveBacks [vR 10 0 1] (some (vI (nI 0))) c (MRc nb db by_ rs) mi ml (u2 mi 1 9 (nI 1)) ml :=
  g_w_haveBacks_0 hb ⟨fun _ => ⟨rfl, rfl, rfl⟩, fun g => absurd h g⟩
theorem R_hbf (hb : nb = 43 ∧ db = 5 ∨ nb = 5 ∧ db = 43) (hW : WF σ) (h8 : ¬ mi 1 8 = 0) (h3 : mi 11 3 = zI (σ 0 12)) (hB : RCb σ nb mi) (h : ¬ HB σ) : Ret m_w_haveBacks [vR 10 0 1] (some (vI (nI 0))) c (MRc nb db by_ rs) mi ml (u2 mi 1 9 (nI 5)) ml := by
  have hl := los_le (σ := σ)
  refine g_w_haveBacks_0 hb ⟨fun g => absurd g h8, fun _ => ⟨fun _ => ⟨rfl, (u2_u2 _ _ _ _ _).symm, rfl⟩, fun g => ⟨_, R_lostCount (hbb_of hb) hW (hB.w (hbb_of hb) _), fun _ => ⟨rfl, (u2_u2 _ _ _ _ _).symm, rfl⟩, fun g2 => ?_⟩⟩⟩
  rw [nI_leN (by decide) (by omega)] at g2
  by_cases h1 : σ 0 12 = 1
  · exact absurd ⟨h1, by omega⟩ h
  · exact absurd (sc0 hW h3 h1) g
theorem R_hbt (hb : nb = 43 ∧ db = 5 ∨ nb = 5 ∧ db = 43) (hW : WF σ) (h8 : ¬ mi 1 8 = 0) (h3 : mi 11 3 = zI (σ 0 12)) (hB : RCb σ nb mi) (h : HB σ) : Ret m_w_haveBacks [vR 10 0 1] (some (vI (nI 1))) c (MRc nb db by_ rs) mi ml (u2 mi 1 9 (nI 0)) ml := by
  have hl := los_le (σ := σ)
  refine g_w_haveBacks_0 hb ⟨fun g => absurd g h8, fun _ => ⟨fun g => absurd g (sc1 h3 h.1), fun g => ⟨_, R_lostCount (hbb_of hb) hW (hB.w (hbb_of hb) _), fun g2 => ?_, fun g2 => ⟨rfl, (u2_u2 _ _ _ _ _).symm, rfl⟩⟩⟩⟩
  rw [nI_leN (by decide) (by omega)] at g2
  have := h.2
  omega
theorem R_rfn {x : Int32} (h : x = 0) : Ret m_r_refuses [vR 19 0 48, vI x] (some (vI (nI 1))) c (MRc nb db by_ rs) mj mk mj mk :=
  g_r_refuses_0 ⟨fun g => absurd h g, fun _ => ⟨rfl, rfl, rfl⟩⟩
theorem R_rff {x : Int32} (hW : WF σ) (hs : RMs σ mj) (hx : ¬ x = 0) (h : ¬ HB σ) : Ret m_r_refuses [vR 19 0 48, vI x] (some (vI (nI 5))) c (MRc nb db by_ rs) mj mk mj mk := by
  have hl := los_le (σ := σ)
  refine g_r_refuses_0 ⟨fun _ => ⟨fun _ => ⟨rfl, rfl, rfl⟩, fun g => ⟨_, R_losses hW hs, fun _ => ⟨rfl, rfl, rfl⟩, fun g2 => ?_⟩⟩, fun g => absurd g hx⟩
  rw [nI_leN (by decide) (by omega)] at g2
  by_cases h1 : σ 0 12 = 1
  · exact absurd ⟨h1, by omega⟩ h
  · exact absurd (sc0 hW hs.sc h1) g
theorem R_rft {x : Int32} (hW : WF σ) (hs : RMs σ mj) (hx : ¬ x = 0) (h : HB σ) : Ret m_r_refuses [vR 19 0 48, vI x] (some (vI (nI 0))) c (MRc nb db by_ rs) mj mk mj mk := by
  have hl := los_le (σ := σ)
  refine g_r_refuses_0 ⟨fun _ => ⟨fun g => absurd g (sc1 hs.sc h.1), fun g => ⟨_, R_losses hW hs, fun g2 => ?_, fun g2 => ⟨rfl, rfl, rfl⟩⟩⟩, fun g => absurd g hx⟩
  rw [nI_leN (by decide) (by omega)] at g2
  have := h.2
  omega
theorem p10 : ¬ nI 1 ≤ (0 : Int32) := by decide
theorem p50 : ¬ nI 5 ≤ (0 : Int32) := by decide
theorem p00 : nI 0 ≤ (0 : Int32) := by decide
theorem R_bof_1 (hb : nb = 43 ∧ db = 5 ∨ nb = 5 ∧ db = 43) (I : IC σ nb mi) (h : ¬ InK σ 5 j) : Ret m_w_haveBackOf [vR 10 0 1, vI j] (some (vI (nI 0))) c (MRc nb db by_ rs) mi ml (u2 mi 1 9 (nI 1)) ml :=
  g_w_haveBackOf_0 ⟨_, _, _, R_one_f hb I h, fun _ => ⟨rfl, rfl, rfl⟩, fun g => absurd rfl g⟩
theorem R_bof_5 (hb : nb = 43 ∧ db = 5 ∨ nb = 5 ∧ db = 43) (I : IC σ nb mi) (h : InK σ 5 j) (h2 : ¬ HB σ) : Ret m_w_haveBackOf [vR 10 0 1, vI j] (some (vI (nI 0))) c (MRc nb db by_ rs) mi ml (u2 mi 1 9 (nI 5)) ml :=
  g_w_haveBackOf_0 ⟨_, _, _, R_one_t hb I h, fun g => absurd g n10, fun _ => ⟨_, _, _, R_hbf hb I.1 (show ¬ (u2 mi 1 9 (nI 0)) 1 8 = 0 from rd1 (mi := mi) I.2.1 h.1) (IC.sc (mi := mi) I) ((I.2.2 h.1).w (hbb_of hb) _) h2, fun _ => ⟨rfl, (u2_u2 _ _ _ _ _).symm, rfl⟩, fun g => absurd rfl g⟩⟩
theorem R_bof_0 (hb : nb = 43 ∧ db = 5 ∨ nb = 5 ∧ db = 43) (I : IC σ nb mi) (h : InK σ 5 j) (h2 : HB σ) : Ret m_w_haveBackOf [vR 10 0 1, vI j] (some (vI (nI 1))) c (MRc nb db by_ rs) mi ml (u2 mi 1 9 (nI 0)) ml :=
  g_w_haveBackOf_0 ⟨_, _, _, R_one_t hb I h, fun g => absurd g n10, fun _ => ⟨_, _, _, R_hbt hb I.1 (show ¬ (u2 mi 1 9 (nI 0)) 1 8 = 0 from rd1 (mi := mi) I.2.1 h.1) (IC.sc (mi := mi) I) ((I.2.2 h.1).w (hbb_of hb) _) h2, fun g => absurd g n10, fun _ => ⟨rfl, (u2_u2 _ _ _ _ _).symm, rfl⟩⟩⟩
theorem A_reading (hb : nb = 43 ∧ db = 5 ∨ nb = 5 ∧ db = 43) (I : IC σ nb mi) (N : RCn σ mi ml) (J : IR σ mj) (R : RMn σ mj) : Agr m_w_reading m_r_reading [vI j] nb db by_ rs mi ml mj mk := by
  obtain ⟨hW, hs, hB⟩ := J
  by_cases h : InK σ 5 j
  · obtain ⟨i, ei, hi⟩ := h.nat
    have h31 := InK.n31 hW hi
    have el := lost_i hW (((I.2.2 h.1).w (hbb_of hb) (nI 0)).lo hW) ei (show i < 32 by omega)
    by_cases hs1 : σ 0 12 = 1
    · by_cases hl : bt (loB σ) i = 1
      · exact Agr.mk (vI (-(nI 2147483648))) 5 (by decide) (fun c => g_w_reading_0 hb ⟨_, _, _, R_one_t hb I h, fun g => absurd g n10, fun _ => ⟨fun _ => ⟨rfl, (u2_u2 _ _ _ _ _).symm, rfl⟩, fun _ => ⟨fun g => absurd (el.mpr hl) g, fun _ => ⟨rfl, (u2_u2 _ _ _ _ _).symm, rfl⟩⟩⟩⟩) (fun c => g_r_reading_0 ⟨_, R_is_t hW (RMs_th hs _) h, fun _ => ⟨fun _ => ⟨rfl, rfl, rfl⟩, fun _ => ⟨_, R_has (RMs.lob hW hs) ei (lo_lt hW) (by omega), fun _ => ⟨rfl, rfl, rfl⟩, fun g => absurd hl (bt_r.mp g)⟩⟩, fun g => absurd g n10⟩)
      · refine Agr.mk (vI (zI (rdg σ i))) 0 (by decide) (fun c => g_w_reading_0 hb ⟨_, _, _, R_one_t hb I h, fun g => absurd g n10, fun _ => ⟨fun g => absurd g (sc1 I.sc hs1), fun _ => ⟨fun _ => ⟨ixn ei (by omega) (by decide), ?_, (u2_u2 _ _ _ _ _).symm, rfl⟩, fun g => absurd (el.mp g) hl⟩⟩⟩) (fun c => g_r_reading_0 ⟨_, R_is_t hW (RMs_th hs _) h, fun _ => ⟨fun g => absurd g (sc1 hs.sc hs1), fun _ => ⟨_, R_has (RMs.lob hW hs) ei (lo_lt hW) (by omega), fun g => absurd (bt_r.mpr hl) g, fun _ => ⟨ixn ei (by omega) (by decide), ?_, rfl, rfl⟩⟩⟩, fun g => absurd g n10⟩)
        · rw [u2_o _ _ (by decide), cln ei (by omega), (N hs1).1 i hi hl]
        · rw [cln ei (by omega), R hs1 i hi hl]
    · refine Agr.mk (vI (-(nI 2147483648))) 5 (by decide) (fun c => g_w_reading_0 hb ⟨_, _, _, R_one_t hb I h, fun g => absurd g n10, fun _ => ⟨fun _ => ⟨rfl, (u2_u2 _ _ _ _ _).symm, rfl⟩, fun g => absurd (sc0 hW I.sc hs1) g⟩⟩) (fun c => g_r_reading_0 ⟨_, R_is_t hW (RMs_th hs _) h, fun _ => ⟨fun _ => ⟨rfl, rfl, rfl⟩, fun g => absurd (sc0 hW hs.sc hs1) g⟩, fun g => absurd g n10⟩)
  · exact Agr.mk (vI (-(nI 2147483648))) 1 (by decide) (fun c => g_w_reading_0 hb ⟨_, _, _, R_one_f hb I h, fun _ => ⟨rfl, rfl, rfl⟩, fun g => absurd rfl g⟩) (fun c => g_r_reading_0 ⟨_, R_is_f hW (RMs_th hs _) h, fun g => absurd rfl g, fun _ => ⟨rfl, rfl, rfl⟩⟩)
theorem RK.of (J : IR σ mj) (hr : σ 0 0 = 1) (R : RMn σ mj) (h : σ 0 12 = 1) : RK σ (u2 mj 48 0 (nI 0)) := ⟨J.1, RMs_th J.2.1 _, J.2.2, hr, R h⟩
theorem A_net (hb : nb = 43 ∧ db = 5 ∨ nb = 5 ∧ db = 43) (I : IC σ nb mi) (N : RCn σ mi ml) (J : IR σ mj) (R : RMn σ mj) : Agr m_w_net m_r_net [vI j] nb db by_ rs mi ml mj mk := by
  have J' := J
  obtain ⟨hW, hs, hB⟩ := J
  have hll := los_le (σ := σ)
  by_cases h : InK σ 5 j
  · obtain ⟨i, ei, hi⟩ := h.nat
    have h31 := InK.n31 hW hi
    have hB1 := (I.2.2 h.1).w (hbb_of hb) (nI 0)
    have el := lost_i hW (hB1.lo hW) ei (show i < 32 by omega)
    by_cases hs1 : σ 0 12 = 1
    · have K := RK.of J' h.1 R hs1
      by_cases hl : bt (loB σ) i = 1
      · have hp := los_pos (show i < 32 by omega) hl
        by_cases h1 : los σ = 1
        · refine Agr.mk (vI (zI (netZ σ i))) 0 (by decide) (fun c => g_w_net_0 hb ⟨_, _, _, R_one_t hb I h, fun _ => ⟨fun g => absurd g (sc1 I.sc hs1), fun _ => ⟨fun g => absurd (el.mpr hl) g, fun _ => ⟨_, R_lostCount (hbb_of hb) hW hB1, fun g => absurd (by rw [h1]) g, fun _ => ⟨ixn ei (by omega) (by decide), ?_, (u2_u2 _ _ _ _ _).symm, rfl⟩⟩⟩⟩, fun g => absurd g n10⟩) (fun c => g_r_net_0 ⟨_, R_is_t hW (RMs_th hs _) h, fun _ => ⟨fun g => absurd g (sc1 hs.sc hs1), fun _ => ⟨_, R_has (RMs.lob hW hs) ei (lo_lt hW) (by omega), fun g => ⟨_, R_netOf K ei hi, rfl, rfl, rfl⟩, fun g => ⟨_, R_losses hW (RMs_th hs _), fun _ => ⟨_, R_netOf K ei hi, rfl, rfl, rfl⟩, fun g => absurd ?_ g⟩⟩⟩, fun g => absurd g n10⟩)
          · rw [u2_o _ _ (by decide), cln ei (by omega), (N hs1).2.1 i hi (Or.inr h1)]
          · rw [h1]; decide
        · refine Agr.mk (vI (-(nI 2147483648))) 5 (by decide) (fun c => g_w_net_0 hb ⟨_, _, _, R_one_t hb I h, fun _ => ⟨fun g => absurd g (sc1 I.sc hs1), fun _ => ⟨fun g => absurd (el.mpr hl) g, fun _ => ⟨_, R_lostCount (hbb_of hb) hW hB1, fun _ => ⟨rfl, (u2_u2 _ _ _ _ _).symm, rfl⟩, fun g => absurd ((nI_eq (by omega) (by decide)).mp g) h1⟩⟩⟩, fun g => absurd g n10⟩) (fun c => g_r_net_0 ⟨_, R_is_t hW (RMs_th hs _) h, fun _ => ⟨fun g => absurd g (sc1 hs.sc hs1), fun _ => ⟨_, R_has (RMs.lob hW hs) ei (lo_lt hW) (by omega), fun g => absurd hl (bt_r.mp g), fun g => ⟨_, R_losses hW (RMs_th hs _), fun g2 => ?_, fun _ => ⟨rfl, rfl, rfl⟩⟩⟩⟩, fun g => absurd g n10⟩)
          rw [nI_leN (by omega) (by decide)] at g2
          omega
      · refine Agr.mk (vI (zI (netZ σ i))) 0 (by decide) (fun c => g_w_net_0 hb ⟨_, _, _, R_one_t hb I h, fun _ => ⟨fun g => absurd g (sc1 I.sc hs1), fun _ => ⟨fun _ => ⟨ixn ei (by omega) (by decide), ?_, (u2_u2 _ _ _ _ _).symm, rfl⟩, fun g => absurd (el.mp g) hl⟩⟩, fun g => absurd g n10⟩) (fun c => g_r_net_0 ⟨_, R_is_t hW (RMs_th hs _) h, fun _ => ⟨fun g => absurd g (sc1 hs.sc hs1), fun _ => ⟨_, R_has (RMs.lob hW hs) ei (lo_lt hW) (by omega), fun _ => ⟨_, R_netOf K ei hi, rfl, rfl, rfl⟩, fun g => absurd (bt_r.mpr hl) g⟩⟩, fun g => absurd g n10⟩)
        rw [u2_o _ _ (by decide), cln ei (by omega), (N hs1).2.1 i hi (Or.inl hl)]
    · refine Agr.mk (vI (-(nI 2147483648))) 5 (by decide) (fun c => g_w_net_0 hb ⟨_, _, _, R_one_t hb I h, fun _ => ⟨fun _ => ⟨rfl, (u2_u2 _ _ _ _ _).symm, rfl⟩, fun g => absurd (sc0 hW I.sc hs1) g⟩, fun g => absurd g n10⟩) (fun c => g_r_net_0 ⟨_, R_is_t hW (RMs_th hs _) h, fun _ => ⟨fun _ => ⟨rfl, rfl, rfl⟩, fun g => absurd (sc0 hW hs.sc hs1) g⟩, fun g => absurd g n10⟩)
  · exact Agr.mk (vI (-(nI 2147483648))) 1 (by decide) (fun c => g_w_net_0 hb ⟨_, _, _, R_one_f hb I h, fun g => absurd rfl g, fun _ => ⟨rfl, rfl, rfl⟩⟩) (fun c => g_r_net_0 ⟨_, R_is_f hW (RMs_th hs _) h, fun g => absurd rfl g, fun _ => ⟨rfl, rfl, rfl⟩⟩)
theorem n1_bd (hW : WF σ) : 0 < σ 0 5 + 1 ∧ σ 0 5 + 1 < 562949953421312 := by have := hW.nn; omega
theorem A_back {l : Int32} (hb : nb = 43 ∧ db = 5 ∨ nb = 5 ∧ db = 43) (I : IC σ nb mi) (N : RCn σ mi ml) (J : IR σ mj) (R : RMn σ mj) : Agr m_w_back m_r_back [vI j, vI l] nb db by_ rs mi ml mj mk := by
  have J' := J
  obtain ⟨hW, hs, hB⟩ := J
  by_cases h : InK σ 5 j
  · by_cases h2 : HB σ
    · obtain ⟨i, ei, hi⟩ := h.nat
      have h31 := InK.n31 hW hi
      have hB1 := (I.2.2 h.1).w (hbb_of hb) (nI 0)
      have bd := back_bd hW i
      have nd := n1_bd hW
      refine Agr.mkL (vL (frL (backZ σ i) (σ 0 5 + 1) l)) 0 (by decide) (fun c => g_w_back_0 hb ⟨_, _, _, R_bof_0 hb I h h2, fun _ => ⟨ixn ei (by omega) (by decide), _, R_part ⟨by omega, by omega⟩ nd (by rw [cln ei (by omega)]; exact ((N h2.1).2.2 h2.2).2 i hi) (hB1.nI1 hW), rfl, rfl, rfl⟩, fun g => absurd g n10⟩) (fun c => g_r_back_0 ⟨_, R_is_t hW (RMs_th hs _) h, _, R_rft hW (RMs_th hs _) n10 h2, fun _ => ⟨_, R_partsOf (RK.of J' h.1 R h2.1) ei hi, _, _, R_sets ⟨by omega, by omega⟩ ⟨nd.1, by omega⟩ rfl (hs.nL hW), fun g => ⟨?_, rfl, rfl⟩, fun g => ⟨?_, rfl, rfl⟩⟩, fun g => absurd p00 g⟩)
      · unfold frL; rw [if_pos g, u2_ne2 _ _ (Or.inr (by decide)), u2_s]
      · unfold frL; rw [if_neg g, u2_s]
    · exact Agr.mk (vL (-(lN 9223372036854775808))) 5 (by decide) (fun c => g_w_back_0 hb ⟨_, _, _, R_bof_5 hb I h h2, fun g => absurd rfl g, fun _ => ⟨rfl, rfl, rfl⟩⟩) (fun c => g_r_back_0 ⟨_, R_is_t hW (RMs_th hs _) h, _, R_rff hW (RMs_th hs _) n10 h2, fun g => absurd g p50, fun _ => ⟨rfl, rfl, rfl⟩⟩)
  · exact Agr.mk (vL (-(lN 9223372036854775808))) 1 (by decide) (fun c => g_w_back_0 hb ⟨_, _, _, R_bof_1 hb I h, fun g => absurd rfl g, fun _ => ⟨rfl, rfl, rfl⟩⟩) (fun c => g_r_back_0 ⟨_, R_is_f hW (RMs_th hs _) h, _, R_rfn rfl, fun g => absurd g p10, fun _ => ⟨rfl, rfl, rfl⟩⟩)
theorem A_error {l : Int32} (hb : nb = 43 ∧ db = 5 ∨ nb = 5 ∧ db = 43) (I : IC σ nb mi) (N : RCn σ mi ml) (J : IR σ mj) (R : RMn σ mj) : Agr m_w_error m_r_error [vI j, vI l] nb db by_ rs mi ml mj mk := by
  have J' := J
  obtain ⟨hW, hs, hB⟩ := J
  by_cases h : InK σ 5 j
  · by_cases h2 : HB σ
    · obtain ⟨i, ei, hi⟩ := h.nat
      have h31 := InK.n31 hW hi
      have hB1 := (I.2.2 h.1).w (hbb_of hb) (nI 0)
      have bd := err_bd hW i
      have nd := n1_bd hW
      refine Agr.mkL (vL (frL (errZ σ i) (σ 0 5 + 1) l)) 0 (by decide) (fun c => g_w_error_0 hb ⟨_, _, _, R_bof_0 hb I h h2, fun _ => ⟨_, R_errorOf (hbb_of hb) hW hB1 ei hi (((N h2.1).2.2 h2.2).2 i hi), _, R_part ⟨by omega, by omega⟩ nd rfl (hB1.nI1 hW), rfl, rfl, rfl⟩, fun g => absurd g n10⟩) (fun c => g_r_error_0 ⟨_, R_is_t hW (RMs_th hs _) h, _, R_rft hW (RMs_th hs _) n10 h2, fun _ => ⟨_, R_errorParts (RK.of J' h.1 R h2.1) ei hi, _, _, R_sets ⟨by omega, by omega⟩ ⟨nd.1, by omega⟩ rfl (hs.nL hW), fun g => ⟨?_, rfl, rfl⟩, fun g => ⟨?_, rfl, rfl⟩⟩, fun g => absurd p00 g⟩)
      · unfold frL; rw [if_pos g, u2_ne2 _ _ (Or.inr (by decide)), u2_s]
      · unfold frL; rw [if_neg g, u2_s]
    · exact Agr.mk (vL (-(lN 9223372036854775808))) 5 (by decide) (fun c => g_w_error_0 hb ⟨_, _, _, R_bof_5 hb I h h2, fun g => absurd rfl g, fun _ => ⟨rfl, rfl, rfl⟩⟩) (fun c => g_r_error_0 ⟨_, R_is_t hW (RMs_th hs _) h, _, R_rff hW (RMs_th hs _) n10 h2, fun g => absurd g p50, fun _ => ⟨rfl, rfl, rfl⟩⟩)
  · exact Agr.mk (vL (-(lN 9223372036854775808))) 1 (by decide) (fun c => g_w_error_0 hb ⟨_, _, _, R_bof_1 hb I h, fun g => absurd rfl g, fun _ => ⟨rfl, rfl, rfl⟩⟩) (fun c => g_r_error_0 ⟨_, R_is_f hW (RMs_th hs _) h, _, R_rfn rfl, fun g => absurd g p10, fun _ => ⟨rfl, rfl, rfl⟩⟩)
theorem n2_bd (hW : WF σ) : 0 < (σ 0 5 + 1) * (σ 0 5 + 1) ∧ (σ 0 5 + 1) * (σ 0 5 + 1) ≤ 1024 := by
  have := hW.nn
  refine ⟨Int.mul_pos (by omega) (by omega), ?_⟩
  calc (σ 0 5 + 1) * (σ 0 5 + 1) ≤ 32 * (σ 0 5 + 1) := Int.mul_le_mul_of_nonneg_right (by omega) (by omega)
    _ ≤ 1024 := by omega
theorem A_share {l : Int32} (hb : nb = 43 ∧ db = 5 ∨ nb = 5 ∧ db = 43) (I : IC σ nb mi) (J : IR σ mj) : Agr m_w_share m_r_share [vI l] nb db by_ rs mi ml mj mk := by
  obtain ⟨hW, hs, hB⟩ := J
  by_cases hr : σ 0 0 = 1
  · have hB1 := I.2.2 hr
    have nd := n2_bd hW
    have hn := hW.nn
    have e1 : lN 4 * (mi nb 0).toInt64 = zL (4 * σ 0 5) := by rw [hB1.1, zI_l ⟨by omega, by omega⟩, show lN 4 = zL 4 from rfl, zL_mul]
    have e2 : lN 4 * (mj 48 5).toInt64 = zL (4 * σ 0 5) := by rw [hs.2.2.1, zI_l ⟨by omega, by omega⟩, show lN 4 = zL 4 from rfl, zL_mul]
    refine Agr.mkL (vL (frL (4 * σ 0 5) ((σ 0 5 + 1) * (σ 0 5 + 1)) l)) 0 (by decide) (fun c => g_w_share_0 hb ⟨fun g => absurd g (rd1 I.2.1 hr), fun _ => ⟨_, R_part ⟨by omega, by omega⟩ ⟨nd.1, by omega⟩ e1 (by rw [hB1.nI1 hW, zL_mul]), rfl, rfl, rfl⟩⟩) (fun c => g_r_share_0 ⟨fun _ => ⟨_, _, R_sets ⟨by omega, by omega⟩ ⟨nd.1, by omega⟩ e2 (by rw [hs.nL hW, zL_mul]), fun g => ⟨?_, rfl, rfl⟩, fun g => ⟨?_, rfl, rfl⟩⟩, fun g => absurd g (rf1 hs hr)⟩)
    · unfold frL; rw [if_pos g, u2_ne2 _ _ (Or.inr (by decide)), u2_s]
    · unfold frL; rw [if_neg g, u2_s]
  · exact Agr.mk (vL (-(lN 1))) 1 (by decide) (fun c => g_w_share_0 hb ⟨fun _ => ⟨rfl, rfl, rfl⟩, fun g => absurd (rd0 I.2.1 hr hW) g⟩) (fun c => g_r_share_0 ⟨fun g => absurd (rf0 hs hr hW) g, fun _ => ⟨rfl, rfl, rfl⟩⟩)
theorem A_grains {l : Int32} (hb : nb = 43 ∧ db = 5 ∨ nb = 5 ∧ db = 43) (I : IC σ nb mi) (N : RCn σ mi ml) (J : IR σ mj) (R : RMn σ mj) : Agr m_w_grains m_r_grains [vI l] nb db by_ rs mi ml mj mk := by
  have J' := J
  obtain ⟨hW, hs, hB⟩ := J
  by_cases hr : σ 0 0 = 1
  · have hB1 := I.2.2 hr
    by_cases h2 : HB σ
    · have nd := n2_bd hW
      have hA := netA_bd hW
      have e1 : lN 4 * ml 11 4 = zL (4 * netA σ) := by rw [((N h2.1).2.2 h2.2).1, show lN 4 = zL 4 from rfl, zL_mul]
      have e2 : lN 4 * (zI (netA σ)).toInt64 = zL (4 * netA σ) := by rw [zI_l ⟨by omega, by omega⟩, show lN 4 = zL 4 from rfl, zL_mul]
      refine Agr.mkL (vL (frL (4 * netA σ) ((σ 0 5 + 1) * (σ 0 5 + 1)) l)) 0 (by decide) (fun c => g_w_grains_0 hb ⟨_, _, _, R_hbt hb hW (rd1 I.2.1 hr) I.sc hB1 h2, fun _ => ⟨_, R_part ⟨by omega, by omega⟩ ⟨nd.1, by omega⟩ e1 (by rw [(hB1.w (hbb_of hb) _).nI1 hW, zL_mul]), rfl, rfl, rfl⟩, fun g => absurd g n10⟩) (fun c => g_r_grains_0 ⟨_, R_rft hW (RMs_th hs _) (rf1 hs hr) h2, fun _ => ⟨_, R_netAll (RK.of J' hr R h2.1), _, _, R_sets ⟨by omega, by omega⟩ ⟨nd.1, by omega⟩ e2 (by rw [hs.nL hW, zL_mul]), fun g => ⟨?_, rfl, rfl⟩, fun g => ⟨?_, rfl, rfl⟩⟩, fun g => absurd p00 g⟩)
      · unfold frL; rw [if_pos g, u2_ne2 _ _ (Or.inr (by decide)), u2_s]
      · unfold frL; rw [if_neg g, u2_s]
    · exact Agr.mk (vL (-(lN 9223372036854775808))) 5 (by decide) (fun c => g_w_grains_0 hb ⟨_, _, _, R_hbf hb hW (rd1 I.2.1 hr) I.sc hB1 h2, fun g => absurd rfl g, fun _ => ⟨rfl, rfl, rfl⟩⟩) (fun c => g_r_grains_0 ⟨_, R_rff hW (RMs_th hs _) (rf1 hs hr) h2, fun g => absurd g p50, fun _ => ⟨rfl, rfl, rfl⟩⟩)
  · exact Agr.mk (vL (-(lN 9223372036854775808))) 1 (by decide) (fun c => g_w_grains_0 hb ⟨_, _, _, R_hbn hb (rd0 I.2.1 hr hW), fun g => absurd rfl g, fun _ => ⟨rfl, rfl, rfl⟩⟩) (fun c => g_r_grains_0 ⟨_, R_rfn (rf0 hs hr hW), fun g => absurd g p10, fun _ => ⟨rfl, rfl, rfl⟩⟩)
end
