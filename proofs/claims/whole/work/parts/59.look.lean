/-! ===== look: no such set; blinded ===== -/
def blS (σ : SG) : SG := fun a => if a = 0 then (fun k => if k = 1 then 5 else if k = 13 then σ 0 13 + 1 else if k = 14 then σ 0 14 + 1 else σ 0 k) else σ a
theorem blS_0 (σ : SG) {k : Nat} (h1 : k ≠ 1) (h3 : k ≠ 13) (h4 : k ≠ 14) : blS σ 0 k = σ 0 k := by unfold blS; simp [h1, h3, h4]
theorem blS_s (σ : SG) : SGs σ (blS σ) := ⟨fun a ha => by unfold blS; rw [if_neg (show ¬ a = 0 by omega)], fun k hk => blS_0 σ (by omega) (by omega) (by omega)⟩
section
variable {nb db b : Nat} {by_ rs : RX} {c : Nat} {σ τ : SG} {mi mi' mj mj' : MI} {ml ml' mk : ML} {x : Int32}
theorem V_look0 (hb : nb = 43 ∧ db = 5 ∨ nb = 5 ∧ db = 43) (F : FC σ nb mi ml) (R : FR σ mj) (h : ¬ (σ 0 0 = 1 ∧ InS σ x)) : Adv m_w_look m_r_look [vI x] nb db by_ rs σ mi ml mj mk := by
  have I := F.1
  have J := R.1
  have hW := I.1
  have hs := J.2.1
  by_cases hr : σ 0 0 = 1
  · have hS : ¬ InS σ x := fun g => h ⟨hr, g⟩
    have r26 : ¬ mj 48 26 = 0 := by rw [hs.rd, hr]; decide
    exact Adv.ofA hb F R (Agr.mk (vI (-(nI 1))) 2 (by decide) (fun c => g_w_look_0 hb ⟨_, _, _, R_set1 hb I hr hS, fun g => absurd rfl g, fun _ => ⟨rfl, rfl, rfl⟩⟩) (fun c => g_r_look_0 ⟨fun _ => ⟨_, R_isS1 hW (RMs_th hs _) hS, fun g => absurd rfl g, fun _ => ⟨rfl, rfl, rfl⟩⟩, fun g => absurd g r26⟩))
  · have hz0 : σ 0 0 = 0 := by
      rcases hW.1 with h | h
      · exact h.1
      · exact absurd h.1 hr
    exact Adv.ofA hb F R (Agr.mk (vI (-(nI 1))) 1 (by decide) (fun c => g_w_look_0 hb ⟨_, _, _, R_set0 hb I hr, fun g => absurd rfl g, fun _ => ⟨rfl, rfl, rfl⟩⟩) (fun c => g_r_look_0 ⟨fun g => absurd (by rw [hs.rd, hz0]; rfl) g, fun _ => ⟨rfl, rfl, rfl⟩⟩))
theorem V_lookB (hb : nb = 43 ∧ db = 5 ∨ nb = 5 ∧ db = 43) (F : FC σ nb mi ml) (R : FR σ mj) (hr : σ 0 0 = 1) (hS : InS σ x) {B : Nat} (hB31 : B < 2 ^ 31) (ex : x = nI B) (h : σ 0 8 < rdS σ B) : Adv m_w_look m_r_look [vI x] nb db by_ rs σ mi ml mj mk := by
  have I := F.1
  have J := R.1
  have hW := I.1
  have hs := J.2.1
  have hbb := hbb_of hb
  have r26 : ¬ mj 48 26 = 0 := by rw [hs.rd, hr]; decide
  have hx : RMx σ (u2 mj 48 0 (nI 0)) := ⟨hs.2.2.1, (hs.dtk hr).2.1, (hs.dtk hr).2.2⟩
  have hMb : RMb σ (u2 mj 48 0 (nI 0)) := J.2.2.eq (fun a ha => u2_o _ _ (by omega))
  have h0 : mi 11 0 = zI (σ 0 13) := I.2.1.2.2.2.2.2.2.1
  have h1 : mi 11 1 = zI (σ 0 14) := I.2.1.2.2.2.2.2.2.2.1
  have h2 : mi 11 2 = zI (σ 0 11) := I.2.1.2.2.2.2.2.2.2.2.1
  have k44 : mj 48 44 = zI (σ 0 13) := hs.2.2.2.2.2.2.2.2.2.1
  have k45 : mj 48 45 = zI (σ 0 14) := hs.2.2.2.2.2.2.2.2.2.2.1
  have k43 : mj 48 43 = zI (σ 0 11) := hs.2.2.2.2.2.2.2.2.1
  have one : nI 1 = zI 1 := rfl
  have e1 : blS σ 0 1 = 5 := rfl
  intro c
  have C := R_lookB (nb := nb) (db := db) (by_ := by_) (rs := rs) (c := c) (ml := ml) hbb hW ((I.2.2 hr).w hbb (nI 0)) hB31 ex h
  have D := R_looksB (nb := nb) (db := db) (by_ := by_) (rs := rs) (c := c) (mk := mk) hW hx hMb hB31 ex h
  have z : ∀ k, k ≠ 1 → k ≠ 11 → k ≠ 13 → k ≠ 14 → blS σ 0 k = σ 0 k := fun k a _ b c => blS_0 σ a b c
  have w1 : 0 ≤ blS σ 0 1 ∧ blS σ 0 1 ≤ 5 := by rw [e1]; decide
  have w4 : blS σ 0 1 ≠ 4 := by rw [e1]; decide
  refine ⟨vI (-(nI 1)), blS σ, _, ml, _, mk, g_w_look_0 hb ⟨_, _, _, R_set2 hb I hr hS, fun _ => ⟨_, _, _, C, fun _ => ⟨rfl, rfl, rfl⟩, fun g => absurd (by decide) g⟩, fun g => absurd g n10⟩, g_r_look_0 ⟨fun _ => ⟨_, R_isS2 hW (RMs_th hs _) hS, fun _ => ⟨_, _, _, D, fun g => absurd rfl g, fun _ => ⟨rfl, rfl, rfl⟩⟩, fun g => absurd g n10⟩, fun g => absurd g r26⟩, ?_, ?_, ⟨rfl, rfl, rfl, rfl, rfl⟩, fun a h1 h2 => ?_, fun a h1 => ?_, fun _ _ => rfl, fun a h1 => ?_, fun _ _ => rfl, rfl⟩
  · refine FC.nx hbb F hr (blS_s σ) z rfl rfl rfl rfl w1 w4 hW.lg (fun i hi => F.2.1 i hi) (fun i hi => ?_) (fun k hk => ?_) ?_ ?_ ?_ ?_ ?_ (fun a a1 a2 _ _ => ?_)
    · rw [u2_o _ _ (by decide), u2_o _ _ (by decide), u2_o _ _ (by decide), u2_o _ _ (by decide), u2_o _ _ (by decide), u2_o _ _ (by decide), u2_o _ _ (by decide), u2_o _ _ (by decide)]
      exact F.2.2.1 i hi
    · rw [u2_ne2 _ _ (Or.inr hk), u2_o _ _ (by decide), u2_o _ _ (by decide), u2_ne2 _ _ (Or.inr hk)]
    · rw [u2_s]; rfl
    · rw [u2_o _ _ (by decide), u2_ne2 _ _ (Or.inr (by decide)), u2_s, u2_o _ _ (by decide), h0, one, zI_add]; rfl
    · rw [u2_o _ _ (by decide), u2_s, u2_o _ _ (by decide), h1, one, zI_add]; rfl
    · rw [u2_o _ _ (by decide), u2_ne2 _ _ (Or.inr (by decide)), u2_ne2 _ _ (Or.inr (by decide)), u2_o _ _ (by decide), h2]; rfl
    · rw [u2_o _ _ (by decide), u2_ne2 _ _ (Or.inr (by decide)), u2_ne2 _ _ (Or.inr (by decide)), u2_o _ _ (by decide)]
    · rw [u2_o _ _ a1, u2_o _ _ a2, u2_o _ _ a2, u2_o _ _ a1]
  · refine FR.nx R hr (blS_s σ) z rfl rfl rfl rfl w1 w4 hW.lg (fun i hi => ?_) ?_ (u2_s _ _ _ _) ?_ ?_ ?_ (fun k a0 a1 a2 a3 a4 a5 => ?_) (fun a a1 _ _ => ?_)
    · rw [u2_o _ _ (show (58 : Nat) ≠ 48 by decide), u2_o _ _ (show (58 : Nat) ≠ 48 by decide), u2_o _ _ (show (58 : Nat) ≠ 48 by decide), u2_o _ _ (show (58 : Nat) ≠ 48 by decide), u2_o _ _ (show (58 : Nat) ≠ 48 by decide), u2_o _ _ (show (59 : Nat) ≠ 48 by decide), u2_o _ _ (show (59 : Nat) ≠ 48 by decide), u2_o _ _ (show (59 : Nat) ≠ 48 by decide), u2_o _ _ (show (59 : Nat) ≠ 48 by decide), u2_o _ _ (show (59 : Nat) ≠ 48 by decide)]
      exact R.2.1 i hi
    · rw [u2_ne2 _ _ (Or.inr (by decide)), u2_s]; rfl
    · rw [u2_ne2 _ _ (Or.inr (by decide)), u2_ne2 _ _ (Or.inr (by decide)), u2_ne2 _ _ (Or.inr (by decide)), u2_ne2 _ _ (Or.inr (by decide)), u2_ne2 _ _ (Or.inr (by decide)), k43]; rfl
    · rw [u2_ne2 _ _ (Or.inr (by decide)), u2_ne2 _ _ (Or.inr (by decide)), u2_ne2 _ _ (Or.inr (by decide)), u2_s, u2_ne2 _ _ (Or.inr (by decide)), k44, one, zI_add]; rfl
    · rw [u2_ne2 _ _ (Or.inr (by decide)), u2_ne2 _ _ (Or.inr (by decide)), u2_s, u2_ne2 _ _ (Or.inr (by decide)), k45, one, zI_add]; rfl
    · rw [u2_ne2 _ _ (Or.inr a2), u2_ne2 _ _ (Or.inr a1), u2_ne2 _ _ (Or.inr a5), u2_ne2 _ _ (Or.inr a4), u2_ne2 _ _ (Or.inr a0)]
    · rw [u2_o _ _ a1, u2_o _ _ a1, u2_o _ _ a1, u2_o _ _ a1, u2_o _ _ a1]
  · rw [u2_o _ _ (by omega), u2_o _ _ (by omega), u2_o _ _ (by omega), u2_o _ _ (by omega)]
  · rw [u2_o _ _ (by omega), u2_o _ _ (by omega), u2_o _ _ (by omega), u2_o _ _ (by omega)]
  · rw [u2_o _ _ (by omega), u2_o _ _ (by omega), u2_o _ _ (by omega), u2_o _ _ (by omega), u2_o _ _ (by omega)]
end
