/-! ===== look: the call ===== -/
section
variable {nb db b : Nat} {by_ rs : RX} {c : Nat} {σ τ : SG} {mi mi' mj mj' : MI} {ml ml' mk : ML} {x : Int32}
theorem V_lookS (hb : nb = 43 ∧ db = 5 ∨ nb = 5 ∧ db = 43) (F : FC σ nb mi ml) (R : FR σ mj) (hr : σ 0 0 = 1) (hS : InS σ x) {B : Nat} (hB31 : B < 2 ^ 31) (ex : x = nI B) (h : rdS σ B ≤ σ 0 8) : Adv m_w_look m_r_look [vI x] nb db by_ rs σ mi ml mj mk := by
  have I := F.1
  have J := R.1
  have hW := I.1
  have hs := J.2.1
  have hbb := hbb_of hb
  have r26 : ¬ mj 48 26 = 0 := by rw [hs.rd, hr]; decide
  have hx : RMx σ (u2 mj 48 0 (nI 0)) := ⟨hs.2.2.1, (hs.dtk hr).2.1, (hs.dtk hr).2.2⟩
  have hMb : RMb σ (u2 mj 48 0 (nI 0)) := J.2.2.eq (fun a ha => u2_o _ _ (by omega))
  have h0 : mi 11 0 = zI (σ 0 13) := I.2.1.2.2.2.2.2.2.1
  have h1 : mi 11 1 = zI (σ 0 14) := I.2.1.2.2.2.2.2.2.2.1
  have h2 : mi 11 2 = zI (σ 0 11) := I.2.1.2.2.2.2.2.2.2.2.1
  have k44 : mj 48 44 = zI (σ 0 13) := hs.2.2.2.2.2.2.2.2.2.1
  have k45 : mj 48 45 = zI (σ 0 14) := hs.2.2.2.2.2.2.2.2.2.2.1
  have k43 : mj 48 43 = zI (σ 0 11) := hs.2.2.2.2.2.2.2.2.1
  have one : nI 1 = zI 1 := rfl
  have hlg := hW.lg
  obtain ⟨L, hL⟩ : ∃ L : Nat, σ 0 11 = L := ⟨(σ 0 11).toNat, by omega⟩
  have hL20 : L ≤ 20 := by omega
  have hg := lg1_b hL20
  have hbd := rdS_bd hW B
  obtain ⟨r, hrN⟩ : ∃ r : Nat, rdS σ B = r := ⟨(rdS σ B).toNat, by omega⟩
  have hneg : ¬ zI (rdS σ B) < 0 := by
    rw [hrN]
    exact fun g => absurd ((nI_ltI (by omega) (by decide)).mp (show nI r < nI 0 from g)) (by omega)
  have hm1 : ¬ zI (rdS σ B) = -(nI 1) := fun g => hneg (by rw [g]; decide)
  intro c
  have C := R_lookAt (nb := nb) (db := db) (by_ := by_) (rs := rs) (c := c) (ml := ml) hbb hW ((I.2.2 hr).w hbb (nI 0)) hB31 ex h
  have D := R_looks (nb := nb) (db := db) (by_ := by_) (rs := rs) (c := c) (mk := mk) hW hx hMb hB31 ex h
  obtain ⟨MW, q1, q2, q3, q4, q5, q6⟩ := R_keep (nb := nb) (db := db) (by_ := by_) (rs := rs) (c := c) (ml := ml) (mi := u2 (u2 (u2 mi 1 9 (nI 0)) 11 0 ((u2 mi 1 9 (nI 0)) 11 0 + nI 1)) 1 9 (nI 0)) hL20 (by rw [u2_o _ _ (by decide), u2_ne2 _ _ (Or.inr (by decide)), u2_o _ _ (by decide), h2, hL]; rfl) x (zI (rdS σ B))
  obtain ⟨MJ, p1, p2, p3, p4, p5, p6, p7, p8⟩ := R_kept (L := L) hL20 (m := u2 (u2 mj 48 0 (nI 0)) 48 44 ((u2 mj 48 0 (nI 0)) 48 44 + nI 1)) (by rw [u2_ne2 _ _ (Or.inr (by decide)), u2_ne2 _ _ (Or.inr (by decide)), k43, hL]; rfl) r26 (R_isS2 hW (RMs_th hs _) hS) D hm1
  have e1 : lkS σ L B (rdS σ B) 0 1 = 0 := rfl
  have e11 : lkS σ L B (rdS σ B) 0 11 = (lg1 L : Int) := rfl
  have z : ∀ k, k ≠ 1 → k ≠ 11 → k ≠ 13 → k ≠ 14 → lkS σ L B (rdS σ B) 0 k = σ 0 k := fun k a b c _ => lkS_0 σ L B (rdS σ B) a b c
  have w1 : 0 ≤ lkS σ L B (rdS σ B) 0 1 ∧ lkS σ L B (rdS σ B) 0 1 ≤ 5 := by rw [e1]; decide
  have w4 : lkS σ L B (rdS σ B) 0 1 ≠ 4 := by rw [e1]; decide
  have l5 : ∀ k, lkS σ L B (rdS σ B) 5 k = if k = 0 then (B : Int) else σ 5 (k - 1) := fun _ => rfl
  have l6 : ∀ k, lkS σ L B (rdS σ B) 6 k = if k = 0 then rdS σ B else σ 6 (k - 1) := fun _ => rfl
  have g2 : ∀ a, a ≠ 1 → a ≠ 11 → a ≠ 12 → a ≠ 13 → MW a = mi a := fun a a1 a2 a3 a4 => by rw [q6 a a2 a3 a4, u2_o _ _ a1, u2_o _ _ a2, u2_o _ _ a1]
  have g3 : ∀ a, a ≠ 48 → a ≠ 58 → a ≠ 59 → MJ a = mj a := fun a a1 a2 a3 => by rw [p4 a a1 a2 a3, u2_o _ _ a1, u2_o _ _ a1]
  refine ⟨vI (zI (rdS σ B)), lkS σ L B (rdS σ B), MW, ml, MJ, mk, g_w_look_0 hb ⟨_, _, _, R_set2 hb I hr hS, fun _ => ⟨_, _, _, C, fun g => absurd g hneg, fun _ => ⟨MW, ml, q1, rfl, rfl, rfl⟩⟩, fun g => absurd g n10⟩, p1, ?_, ?_, ⟨rfl, rfl, rfl, rfl, rfl⟩, fun a a1 a2 => g2 a (by omega) (by omega) (by omega) (by omega), fun a a1 => g2 a (by omega) (by omega) (by omega) (by omega), fun _ _ => rfl, fun a a1 => g3 a (by omega) (by omega) (by omega), fun _ _ => rfl, rfl⟩
  · refine FC.nx hbb F hr (lkS_s σ L B (rdS σ B)) z rfl rfl rfl rfl w1 w4 (by rw [e11]; omega) (fun i hi => ?_) (fun i hi => ?_) (fun k hk => ?_) ?_ ?_ ?_ ?_ ?_ g2
    · rw [e11] at hi
      rw [l5, l6]
      by_cases e : i = 0
      · rw [if_pos e, if_pos e]; exact ⟨⟨by omega, by omega⟩, hbd⟩
      · rw [if_neg e, if_neg e]; exact F.2.1 (i - 1) (by omega)
    · rw [e11] at hi
      rw [q4 i (by omega), q5 i (by omega), l5, l6]
      by_cases e : i = 0
      · rw [if_pos e, if_pos e, if_pos e, if_pos e, ex]; exact ⟨rfl, rfl⟩
      · rw [if_neg e, if_neg e, if_neg e, if_neg e, u2_o _ _ (show (12 : Nat) ≠ 1 by decide), u2_o _ _ (show (12 : Nat) ≠ 11 by decide), u2_o _ _ (show (12 : Nat) ≠ 1 by decide), u2_o _ _ (show (13 : Nat) ≠ 1 by decide), u2_o _ _ (show (13 : Nat) ≠ 11 by decide), u2_o _ _ (show (13 : Nat) ≠ 1 by decide)]
        exact F.2.2.1 (i - 1) (by omega)
    · rw [q6 1 (by decide) (by decide) (by decide), u2_ne2 _ _ (Or.inr hk), u2_o _ _ (by decide), u2_ne2 _ _ (Or.inr hk)]
    · rw [q6 1 (by decide) (by decide) (by decide), u2_s]; rfl
    · rw [q3 0 (by decide), u2_o _ _ (by decide), u2_s, u2_o _ _ (by decide), h0, one, zI_add]; rfl
    · rw [q3 1 (by decide), u2_o _ _ (by decide), u2_ne2 _ _ (Or.inr (by decide)), u2_o _ _ (by decide), h1]; rfl
    · rw [q2, e11]; rfl
    · rw [q3 3 (by decide), u2_o _ _ (by decide), u2_ne2 _ _ (Or.inr (by decide)), u2_o _ _ (by decide)]
  · refine FR.nx R hr (lkS_s σ L B (rdS σ B)) z rfl rfl rfl rfl w1 w4 (by rw [e11]; omega) (fun i hi => ?_) ?_ p7 ?_ ?_ ?_ (fun k a0 a1 a2 a3 a4 a5 => ?_) g3
    · rw [e11] at hi
      rw [e11, Int.toNat_natCast, p2 _ (by omega), p3 _ (by omega), l5, l6]
      by_cases e : i = 0
      · have y : lg1 L - 1 - i = lg1 L - 1 := by omega
        rw [if_pos e, if_pos e, if_pos y, if_pos y, ex]; exact ⟨rfl, rfl⟩
      · have y : ¬ lg1 L - 1 - i = lg1 L - 1 := by omega
        have H := R.2.1 (i - 1) (by omega)
        rw [if_neg e, if_neg e, if_neg y, if_neg y]
        by_cases u : L < 20
        · have hl : lg1 L = L + 1 := by unfold lg1; rw [if_neg (show ¬ 20 ≤ L by omega)]
          rw [if_pos u, if_pos u, u2_o _ _ (show (58 : Nat) ≠ 48 by decide), u2_o _ _ (show (58 : Nat) ≠ 48 by decide), u2_o _ _ (show (59 : Nat) ≠ 48 by decide), u2_o _ _ (show (59 : Nat) ≠ 48 by decide), show lg1 L - 1 - i = (σ 0 11).toNat - 1 - (i - 1) by omega]
          exact H
        · have hl : lg1 L = 20 := by unfold lg1; rw [if_pos (show 20 ≤ L by omega)]
          rw [if_neg u, if_neg u, u2_o _ _ (show (58 : Nat) ≠ 48 by decide), u2_o _ _ (show (58 : Nat) ≠ 48 by decide), u2_o _ _ (show (59 : Nat) ≠ 48 by decide), u2_o _ _ (show (59 : Nat) ≠ 48 by decide), show lg1 L - 1 - i + 1 = (σ 0 11).toNat - 1 - (i - 1) by omega]
          exact H
    · rw [p6]; rfl
    · rw [p5, e11]; rfl
    · rw [p8 44 (by decide) (by decide) (by decide), u2_s, u2_ne2 _ _ (Or.inr (by decide)), k44, one, zI_add]; rfl
    · rw [p8 45 (by decide) (by decide) (by decide), u2_ne2 _ _ (Or.inr (by decide)), u2_ne2 _ _ (Or.inr (by decide)), k45]; rfl
    · rw [p8 k a3 a1 a2, u2_ne2 _ _ (Or.inr a4), u2_ne2 _ _ (Or.inr a0)]
theorem V_look (hb : nb = 43 ∧ db = 5 ∨ nb = 5 ∧ db = 43) (F : FC σ nb mi ml) (R : FR σ mj) : Adv m_w_look m_r_look [vI x] nb db by_ rs σ mi ml mj mk := by
  by_cases h : σ 0 0 = 1 ∧ InS σ x
  · obtain ⟨B, ex, hB⟩ := h.2.nat
    have hnn := F.1.1.nn
    have hB31 : B < 2 ^ 31 := Nat.lt_of_lt_of_le hB (Nat.pow_le_pow_right (by decide) (by omega))
    by_cases g : rdS σ B ≤ σ 0 8
    · exact V_lookS hb F R h.1 h.2 hB31 ex g
    · exact V_lookB hb F R h.1 h.2 hB31 ex (by omega)
  · exact V_look0 hb F R h
end
