/-! ===== undo: the call ===== -/
section
variable {nb db b : Nat} {by_ rs : RX} {c : Nat} {σ σ' : SG} {mi mi' mj mj' m m1 m2 : MI} {ml mk : ML} {x j : Int32}
theorem V_undo (hb : nb = 43 ∧ db = 5 ∨ nb = 5 ∧ db = 43) (F : FC σ nb mi ml) (R : FR σ mj) : Adv m_w_undo m_r_undo [] nb db by_ rs σ mi ml mj mk := by
  have I := F.1
  have J := R.1
  have hW := I.1
  have hs := J.2.1
  have hbb := hbb_of hb
  have h8 : mi 1 8 = zI (σ 0 0) := I.2.1.1
  have h39 : mi 39 0 = zI (σ 0 15) := I.2.1.2.2.2.2.2.2.2.2.2.2
  have h26 : mj 48 26 = zI (σ 0 0) := hs.rd
  have h30 : mj 48 30 = zI (σ 0 15) := hs.2.2.2.2.2.1
  have hac := hW.ac
  by_cases hr : σ 0 0 = 1
  · have r8 : ¬ mi 1 8 = 0 := by rw [h8, hr]; decide
    have r26 : ¬ mj 48 26 = 0 := by rw [h26, hr]; decide
    by_cases hz : σ 0 15 = 0
    · exact Adv.ofA hb F R (Agr.mk (vI (nI 0)) 1 (by decide) (fun c => g_w_undo_0 hb ⟨fun g => absurd g r8, fun _ => ⟨fun _ => ⟨rfl, rfl, rfl⟩, fun g => absurd (by rw [h39, hz]; decide) g⟩⟩) (fun c => g_r_undo_0 ⟨fun g => absurd g r26, fun _ => ⟨fun g => absurd (by rw [h30, hz]; rfl) g, fun _ => ⟨rfl, rfl, rfl⟩⟩⟩))
    obtain ⟨Q, hk⟩ : ∃ Q : Nat, σ 0 15 = ((Q + 1 : Nat) : Int) := ⟨(σ 0 15).toNat - 1, by omega⟩
    have hQ : Q < 10 := by omega
    have hB := I.2.2 hr
    have hAQ := F.2.2.2.2.1 Q (by omega)
    have hRQ := F.2.2.2.2.2 Q (by omega)
    have hnn := hW.nn
    obtain ⟨p, hp⟩ : ∃ p : Nat, σ 10 Q = (p : Int) := ⟨(σ 10 Q).toNat, by omega⟩
    have hpn : p < (σ 0 5).toNat := by omega
    have hn31 : (σ 0 5).toNat ≤ 31 := by omega
    have hp31 : p < 31 := by omega
    have k39 : mi 39 0 = nI (Q + 1) := by rw [h39, hk]; rfl
    have k30 : mj 48 30 = nI (Q + 1) := by rw [h30, hk]; rfl
    have hT : (u2 mi 1 9 (nI 0)) 39 0 = nI (Q + 1) := by rw [u2_o _ _ (by decide), k39]
    have hN : (u2 mi 1 9 (nI 0)) 41 Q = nI p := by rw [u2_o _ _ (by decide), hRQ.2.1, hp]; rfl
    have pos : (0 : Int32) < nI (Q + 1) := (nI_ltI (by decide) (by omega)).mpr (show 0 < Q + 1 by omega)
    have r39 : ¬ mi 39 0 ≤ 0 := by
      rw [k39]
      intro g
      have := (nI_leN (a := Q + 1) (b := 0) (by omega) (by decide)).mp g
      omega
    have r30 : ¬ mj 48 30 = 0 := by
      rw [k30]
      intro g
      rw [g] at pos
      exact absurd pos (by decide)
    have s0 : ∀ k, k = 5 ∨ k = 6 ∨ k = 7 ∨ k = 8 ∨ k = 9 → undS σ Q 0 k = σ 0 k := fun k hk => by
      unfold undS; simp [show k ≠ 1 by omega, show k ≠ 10 by omega, show k ≠ 11 by omega, show k ≠ 12 by omega, show k ≠ 15 by omega]
    have t1 : ∀ k, undS σ Q 1 k = if k < 31 then undP σ Q k else σ 1 k := fun _ => rfl
    have t2 : ∀ k, undS σ Q 2 k = if k < 31 then undP σ Q (31 + k) else σ 2 k := fun _ => rfl
    have t10 : undS σ Q 0 10 = undP σ Q 62 := rfl
    intro c
    obtain ⟨MJ, v1, v2, v3, v4, v5⟩ := U_loop (nb := nb) (db := db) (by_ := by_) (rs := rs) (c := c) (mk := mk) hQ 0 (by omega) (nI 0) (u2 (u2 mj 48 0 (nI 0)) 48 30 (mj 48 30 - nI 1)) rfl (by rw [u2_s, k30, nI_sub (by omega), Nat.add_sub_cancel])
    have hR : Ret m_r_undo [vR 19 0 48] (some (vI (nI 1))) c (MRc nb db by_ rs) mj mk MJ mk := g_r_undo_0 ⟨fun g => absurd g r26, fun _ => ⟨fun _ => v1, fun g => absurd g r30⟩⟩
    have fin : ∀ m3 : MI, Ret m_ac_takeBack [vR 18 0 39, vR 13 0 nb] none c (MRc nb db by_ rs) (u2 mi 1 9 (nI 0)) ml m3 ml → (0 ≤ undS σ Q 0 10 ∧ undS σ Q 0 10 < 2 ^ (σ 0 5).toNat) → (∀ j, 0 ≤ undS σ Q 1 j ∧ undS σ Q 1 j ≤ 9999) → (∀ j, undS σ Q 2 j = 0 ∨ undS σ Q 2 j = 1 ∨ undS σ Q 2 j = 2) → m3 39 0 = nI Q → (∀ a, a ≠ 39 → ¬ (nb ≤ a ∧ a ≤ nb + 4) → m3 a = (u2 mi 1 9 (nI 0)) a) → (∀ k, k ≠ 5 → k ≠ 6 → k ≠ 7 → m3 nb k = mi nb k) → m3 nb 5 = nI (opB (undS σ Q)) → m3 nb 6 = nI (shB (undS σ Q)) → m3 nb 7 = zI (undS σ Q 0 10) → m3 (nb + 1) = mi (nb + 1) → (∀ i : Nat, (i : Int) < σ 0 5 → m3 (nb + 2) i = zI (undS σ Q 1 i)) → m3 (nb + 3) = mi (nb + 3) → m3 (nb + 4) = mi (nb + 4) →
        ∃ (v : AV) (σ' : SG) (mi' : MI) (ml' : ML) (mj' : MI) (mk' : ML), Ret m_w_undo (vR 10 0 1 :: []) (some v) c (MRc nb db by_ rs) mi ml mi' ml' ∧ Ret m_r_undo (vR 19 0 48 :: []) (some v) c (MRc nb db by_ rs) mj mk mj' mk' ∧ FC σ' nb mi' ml' ∧ FR σ' mj' ∧ (σ' 4 = σ 4 ∧ σ' 0 9 = σ 0 9 ∧ σ' 0 5 = σ 0 5 ∧ σ' 0 0 = σ 0 0 ∧ σ' 0 6 = σ 0 6)
          ∧ (∀ a, 19 ≤ a → a ≤ 38 → mi' a = mi a) ∧ (∀ a, (a = 0 ∨ 48 ≤ a) → mi' a = mi a) ∧ (∀ a, 17 ≤ a → ml' a = ml a) ∧ (∀ a, a < 48 ∨ 65 < a → mj' a = mj a) ∧ FLw mk mk' ∧ isV m_w_undo v = true := by
      intro m3 hTB a10 al as_ a39 aq ak a5 a6 a7 b1 b2 b3 b4
      obtain ⟨g1, g2, g3, g4, g5, g6⟩ := und_all (mi' := u2 (u2 m3 11 2 (nI 0)) 11 3 (nI 0)) (mj' := MJ) hQ hk hr F R a10 al as_ hbb (fun a h1 h2 h3 h4 => by rw [u2_o _ _ h2, u2_o _ _ h2, aq a h3 h4, u2_o _ _ h1]) (fun k h9 => by rw [u2_o _ _ (by decide), u2_o _ _ (by decide), aq 1 (by decide) (by omega), u2_ne2 _ _ (Or.inr h9)]) (by rw [u2_o _ _ (by decide), u2_o _ _ (by decide), aq 1 (by decide) (by omega), u2_s]) (fun k h2 h3 => by rw [u2_ne2 _ _ (Or.inr h3), u2_ne2 _ _ (Or.inr h2), aq 11 (by decide) (by omega), u2_o _ _ (by decide)]) (by rw [u2_ne2 _ _ (Or.inr (by decide)), u2_s]) (u2_s _ _ _ _) (by rw [u2_o _ _ (by decide), u2_o _ _ (by decide), a39])
        (hB.upd (fun k h5 h6 h7 => by rw [u2_o _ _ (by omega), u2_o _ _ (by omega), ak k h5 h6 h7]) (by rw [u2_o _ _ (by omega), u2_o _ _ (by omega), a5]) (by rw [u2_o _ _ (by omega), u2_o _ _ (by omega), a6]) (by rw [u2_o _ _ (by omega), u2_o _ _ (by omega), a7]) (by rw [u2_o _ _ (by omega), u2_o _ _ (by omega), b1]) (fun i hi => by rw [u2_o _ _ (by omega), u2_o _ _ (by omega), b2 i hi]) (by rw [u2_o _ _ (by omega), u2_o _ _ (by omega), b3]) (by rw [u2_o _ _ (by omega), u2_o _ _ (by omega), b4]) s0 rfl rfl)
        (fun k hk => by rw [v2 k hk, if_pos (Nat.zero_le k), u2_o _ _ (by decide), u2_o _ _ (by decide)]) v3 (by rw [v4 30 (by decide) (by decide) (by decide) (by decide), u2_s, k30, nI_sub (by omega), Nat.add_sub_cancel]) (fun k h0 h1 h2 h3 h4 h5 => by rw [v4 k h4 h5 h1 h2, u2_ne2 _ _ (Or.inr h3), u2_ne2 _ _ (Or.inr h0)]) (fun a h1 h2 => by rw [v5 a h1 h2, u2_o _ _ h1, u2_o _ _ h1])
      exact ⟨vI (nI 1), undS σ Q, _, ml, MJ, mk, g_w_undo_0 hb ⟨fun g => absurd g r8, fun _ => ⟨fun g => absurd g r39, fun _ => ⟨m3, ml, hTB, rfl, rfl, rfl⟩⟩⟩, hR, g1, g2, g3, g4, g5, fun _ _ => rfl, g6, fun _ _ => rfl, rfl⟩
    have x5 : (u2 mi 1 9 (nI 0)) nb 5 = nI (bitsOf (fun j => σ 2 j == 1) (σ 0 5).toNat) := by rw [u2_o _ _ (by omega)]; exact hB.2.2.2.2.2.1
    have x6 : (u2 mi 1 9 (nI 0)) nb 6 = nI (bitsOf (fun j => σ 2 j == 2) (σ 0 5).toNat) := by rw [u2_o _ _ (by omega)]; exact hB.2.2.2.2.2.2.1
    have x7 : (u2 mi 1 9 (nI 0)) nb 7 = nI (loB σ) := by rw [u2_o _ _ (by omega)]; exact hB.lo hW
    have eop : opB (undS σ Q) = bitsOf (fun j => undS σ Q 2 j == 1) (σ 0 5).toNat := by unfold opB; rw [s0 5 (by omega)]
    have esh : shB (undS σ Q) = bitsOf (fun j => undS σ Q 2 j == 2) (σ 0 5).toNat := by unfold shB; rw [s0 5 (by omega)]
    have hpt : (σ 10 Q).toNat = p := by omega
    rcases hAQ.2 with ⟨z, hb1⟩ | ⟨z, hb1⟩ | z
    · have P0 : ∀ k, undP σ Q k = if k = p then σ 11 Q else xv σ k := fun k => by unfold undP und; rw [if_pos z, hpt]
      have w1 : ∀ k, undS σ Q 1 k = if k = p then σ 11 Q else σ 1 k := fun k => by
        rw [t1]
        by_cases e : k < 31
        · rw [if_pos e, P0, xv_lo σ e]
        · rw [if_neg e, if_neg (show ¬ k = p by omega)]
      have w2 : undS σ Q 2 = σ 2 := by
        funext k
        rw [t2]
        by_cases e : k < 31
        · rw [if_pos e, P0, if_neg (show ¬ 31 + k = p by omega), xv_sh σ e]
        · rw [if_neg e]
      have w10 : undS σ Q 0 10 = σ 0 10 := by rw [t10, P0, if_neg (show ¬ 62 = p by omega), xv_62]
      refine fin _ (T_light hbb hQ hT (by rw [u2_o _ _ (by decide), hRQ.1, z]; rfl) hN (n := (σ 0 5).toNat) (by rw [u2_o _ _ (by omega)]; exact hB.n (by omega)) hpn hn31) (by rw [w10]; exact hW.lost) (fun k => ?_) (fun k => by rw [w2]; exact hW.shut k) (by rw [u2_o _ _ (by omega), u2_s]) (fun a h1 h2 => by rw [u2_o _ _ (by omega), u2_o _ _ h1]) (fun k _ _ _ => by rw [u2_o _ _ (by omega), u2_o _ _ (by omega), u2_o _ _ (by omega)]) ?_ ?_ ?_ (by rw [u2_o _ _ (by omega), u2_o _ _ (by omega), u2_o _ _ (by omega)]) (fun i hi => ?_) (by rw [u2_o _ _ (by omega), u2_o _ _ (by omega), u2_o _ _ (by omega)]) (by rw [u2_o _ _ (by omega), u2_o _ _ (by omega), u2_o _ _ (by omega)])
      · rw [w1]
        by_cases e : k = p
        · rw [if_pos e]; exact hb1
        · rw [if_neg e]; exact hW.lights k
      · rw [u2_o _ _ (by omega), u2_o _ _ (by omega), x5, eop, w2]
      · rw [u2_o _ _ (by omega), u2_o _ _ (by omega), x6, esh, w2]
      · rw [u2_o _ _ (by omega), u2_o _ _ (by omega), x7, w10, lo_nI hW]
      · rw [w1, u2_if]
        by_cases e : i = p
        · rw [if_pos ⟨rfl, e⟩, if_pos e, u2_o _ _ (by decide), hRQ.2.2]
        · rw [if_neg (fun y => e y.2), if_neg e, u2_o _ _ (by omega), u2_o _ _ (by omega), hB.li hi]
    · have P1 : ∀ k, undP σ Q k = if k = 31 + p then σ 11 Q else xv σ k := fun k => by unfold undP und; rw [if_neg (show ¬ σ 9 Q = 0 by omega), if_pos z, hpt]
      have w1 : undS σ Q 1 = σ 1 := by
        funext k
        rw [t1]
        by_cases e : k < 31
        · rw [if_pos e, P1, if_neg (show ¬ k = 31 + p by omega), xv_lo σ e]
        · rw [if_neg e]
      have w2 : ∀ k, undS σ Q 2 k = if k = p then σ 11 Q else σ 2 k := fun k => by
        rw [t2]
        by_cases e : k < 31
        · rw [if_pos e, P1, xv_sh σ e]
          by_cases e2 : k = p
          · rw [if_pos e2, if_pos (show 31 + k = 31 + p by omega)]
          · rw [if_neg e2, if_neg (show ¬ 31 + k = 31 + p by omega)]
        · rw [if_neg e, if_neg (show ¬ k = p by omega)]
      have w10 : undS σ Q 0 10 = σ 0 10 := by rw [t10, P1, if_neg (show ¬ 62 = 31 + p by omega), xv_62]
      have as_ : ∀ k, undS σ Q 2 k = 0 ∨ undS σ Q 2 k = 1 ∨ undS σ Q 2 k = 2 := fun k => by
        rw [w2]
        by_cases e : k = p
        · rw [if_pos e]; exact hb1
        · rw [if_neg e]; exact hW.shut k
      have off : ∀ (d : Int) (x : Int32), x = nI (bitsOf (fun j => σ 2 j == d) (σ 0 5).toNat) → (σ 11 Q == d) = false → x &&& (nI 1 <<< (nI p &&& 31) ^^^ -(nI 1)) = nI (bitsOf (fun j => undS σ Q 2 j == d) (σ 0 5).toNat) := fun d x hx hd => bits_off hn31 hpn (by show (undS σ Q 2 p == d) = false; rw [w2, if_pos rfl]; exact hd) (fun k hk => by show (undS σ Q 2 k == d) = (σ 2 k == d); rw [w2, if_neg hk]) hx rfl
      have set_ : ∀ (d : Int) (x : Int32), x = nI (bitsOf (fun j => σ 2 j == d) (σ 0 5).toNat) → (σ 11 Q == d) = true → (x &&& (nI 1 <<< (nI p &&& 31) ^^^ -(nI 1))) ||| (nI 1 <<< (nI p &&& 31)) = nI (bitsOf (fun j => undS σ Q 2 j == d) (σ 0 5).toNat) := fun d x hx hd => bits_set hn31 hpn (by show (undS σ Q 2 p == d) = true; rw [w2, if_pos rfl]; exact hd) (fun k hk => by show (undS σ Q 2 k == d) = (σ 2 k == d); rw [w2, if_neg hk]) hx rfl
      have hS : (u2 mi 1 9 (nI 0)) 40 Q = nI 1 := by rw [u2_o _ _ (by decide), hRQ.1, z]; rfl
      rcases hb1 with y | y | y
      · exact fin _ (T_shut0 hbb hQ hT hS hN (by rw [u2_o _ _ (by decide), hRQ.2.2, y]; rfl)) (by rw [w10]; exact hW.lost) (fun k => by rw [w1]; exact hW.lights k) as_ (by rw [u2_o _ _ (by omega), u2_o _ _ (by omega), u2_s]) (fun a h1 h2 => by rw [u2_o _ _ (by omega), u2_o _ _ (by omega), u2_o _ _ h1]) (fun k h5 h6 _ => by rw [u2_ne2 _ _ (Or.inr h6), u2_ne2 _ _ (Or.inr h5), u2_o _ _ (by omega), u2_o _ _ (by omega)]) (by rw [u2_ne2 _ _ (Or.inr (by decide)), u2_s, off 1 _ x5 (by rw [y]; rfl), eop]) (by rw [u2_s, off 2 _ x6 (by rw [y]; rfl), esh]) (by rw [u2_ne2 _ _ (Or.inr (by decide)), u2_ne2 _ _ (Or.inr (by decide)), u2_o _ _ (by omega), x7, w10, lo_nI hW]) (by rw [u2_o _ _ (by omega), u2_o _ _ (by omega), u2_o _ _ (by omega), u2_o _ _ (by omega)]) (fun i hi => by rw [w1, u2_o _ _ (by omega), u2_o _ _ (by omega), u2_o _ _ (by omega), u2_o _ _ (by omega), hB.li hi]) (by rw [u2_o _ _ (by omega), u2_o _ _ (by omega), u2_o _ _ (by omega), u2_o _ _ (by omega)]) (by rw [u2_o _ _ (by omega), u2_o _ _ (by omega), u2_o _ _ (by omega), u2_o _ _ (by omega)])
      · exact fin _ (T_shut1 hbb hQ hT hS hN (by rw [u2_o _ _ (by decide), hRQ.2.2, y]; rfl)) (by rw [w10]; exact hW.lost) (fun k => by rw [w1]; exact hW.lights k) as_ (by rw [u2_o _ _ (by omega), u2_o _ _ (by omega), u2_o _ _ (by omega), u2_s]) (fun a h1 h2 => by rw [u2_o _ _ (by omega), u2_o _ _ (by omega), u2_o _ _ (by omega), u2_o _ _ h1]) (fun k h5 h6 _ => by rw [u2_ne2 _ _ (Or.inr h5), u2_ne2 _ _ (Or.inr h6), u2_ne2 _ _ (Or.inr h5), u2_o _ _ (by omega), u2_o _ _ (by omega)]) (by rw [u2_s, set_ 1 _ x5 (by rw [y]; rfl), eop]) (by rw [u2_ne2 _ _ (Or.inr (by decide)), u2_s, off 2 _ x6 (by rw [y]; rfl), esh]) (by rw [u2_ne2 _ _ (Or.inr (by decide)), u2_ne2 _ _ (Or.inr (by decide)), u2_ne2 _ _ (Or.inr (by decide)), u2_o _ _ (by omega), x7, w10, lo_nI hW]) (by rw [u2_o _ _ (by omega), u2_o _ _ (by omega), u2_o _ _ (by omega), u2_o _ _ (by omega), u2_o _ _ (by omega)]) (fun i hi => by rw [w1, u2_o _ _ (by omega), u2_o _ _ (by omega), u2_o _ _ (by omega), u2_o _ _ (by omega), u2_o _ _ (by omega), hB.li hi]) (by rw [u2_o _ _ (by omega), u2_o _ _ (by omega), u2_o _ _ (by omega), u2_o _ _ (by omega), u2_o _ _ (by omega)]) (by rw [u2_o _ _ (by omega), u2_o _ _ (by omega), u2_o _ _ (by omega), u2_o _ _ (by omega), u2_o _ _ (by omega)])
      · exact fin _ (T_shut2 hbb hQ hT hS hN (by rw [u2_o _ _ (by decide), hRQ.2.2, y]; rfl)) (by rw [w10]; exact hW.lost) (fun k => by rw [w1]; exact hW.lights k) as_ (by rw [u2_o _ _ (by omega), u2_o _ _ (by omega), u2_o _ _ (by omega), u2_s]) (fun a h1 h2 => by rw [u2_o _ _ (by omega), u2_o _ _ (by omega), u2_o _ _ (by omega), u2_o _ _ h1]) (fun k h5 h6 _ => by rw [u2_ne2 _ _ (Or.inr h6), u2_ne2 _ _ (Or.inr h6), u2_ne2 _ _ (Or.inr h5), u2_o _ _ (by omega), u2_o _ _ (by omega)]) (by rw [u2_ne2 _ _ (Or.inr (by decide)), u2_ne2 _ _ (Or.inr (by decide)), u2_s, off 1 _ x5 (by rw [y]; rfl), eop]) (by rw [u2_s, set_ 2 _ x6 (by rw [y]; rfl), esh]) (by rw [u2_ne2 _ _ (Or.inr (by decide)), u2_ne2 _ _ (Or.inr (by decide)), u2_ne2 _ _ (Or.inr (by decide)), u2_o _ _ (by omega), x7, w10, lo_nI hW]) (by rw [u2_o _ _ (by omega), u2_o _ _ (by omega), u2_o _ _ (by omega), u2_o _ _ (by omega), u2_o _ _ (by omega)]) (fun i hi => by rw [w1, u2_o _ _ (by omega), u2_o _ _ (by omega), u2_o _ _ (by omega), u2_o _ _ (by omega), u2_o _ _ (by omega), hB.li hi]) (by rw [u2_o _ _ (by omega), u2_o _ _ (by omega), u2_o _ _ (by omega), u2_o _ _ (by omega), u2_o _ _ (by omega)]) (by rw [u2_o _ _ (by omega), u2_o _ _ (by omega), u2_o _ _ (by omega), u2_o _ _ (by omega), u2_o _ _ (by omega)])
    · have P2 : ∀ k, undP σ Q k = if k = 62 then clr (xv σ 62) p else xv σ k := fun k => by unfold undP und; rw [if_neg (show ¬ σ 9 Q = 0 by omega), if_neg (show ¬ σ 9 Q = 1 by omega), hpt]
      have w1 : undS σ Q 1 = σ 1 := by
        funext k
        rw [t1]
        by_cases e : k < 31
        · rw [if_pos e, P2, if_neg (show ¬ k = 62 by omega), xv_lo σ e]
        · rw [if_neg e]
      have w2 : undS σ Q 2 = σ 2 := by
        funext k
        rw [t2]
        by_cases e : k < 31
        · rw [if_pos e, P2, if_neg (show ¬ 31 + k = 62 by omega), xv_sh σ e]
        · rw [if_neg e]
      have w10 : undS σ Q 0 10 = clr (σ 0 10) p := by rw [t10, P2, if_pos rfl, xv_62]
      have hpp := p2_lt hp31
      refine fin _ (T_loss hbb hQ hT (by rw [u2_o _ _ (by decide), hRQ.1, z]; rfl) hN) (by rw [w10]; exact clr_bd p hW.lost) (fun k => by rw [w1]; exact hW.lights k) (fun k => by rw [w2]; exact hW.shut k) (by rw [u2_o _ _ (by omega), u2_s]) (fun a h1 h2 => by rw [u2_o _ _ (by omega), u2_o _ _ h1]) (fun k _ _ h7 => by rw [u2_ne2 _ _ (Or.inr h7), u2_o _ _ (by omega), u2_o _ _ (by omega)]) ?_ ?_ ?_ (by rw [u2_o _ _ (by omega), u2_o _ _ (by omega), u2_o _ _ (by omega)]) (fun i hi => by rw [w1, u2_o _ _ (by omega), u2_o _ _ (by omega), u2_o _ _ (by omega), hB.li hi]) (by rw [u2_o _ _ (by omega), u2_o _ _ (by omega), u2_o _ _ (by omega)]) (by rw [u2_o _ _ (by omega), u2_o _ _ (by omega), u2_o _ _ (by omega)])
      · rw [u2_ne2 _ _ (Or.inr (by decide)), u2_o _ _ (by omega), x5, eop, w2]
      · rw [u2_ne2 _ _ (Or.inr (by decide)), u2_o _ _ (by omega), x6, esh, w2]
      · rw [u2_s, x7, w10, shl_n rfl rfl (by omega) (by omega), Nat.one_mul, m1_eq, nI_xor, nI_and]; rfl
  · have hz0 : σ 0 0 = 0 := by
      rcases hW.1 with h | h
      · exact h.1
      · exact absurd h.1 hr
    exact Adv.ofA hb F R (Agr.mk (vI (nI 0)) 1 (by decide) (fun c => g_w_undo_0 hb ⟨fun _ => ⟨rfl, rfl, rfl⟩, fun g => absurd (by rw [h8, hz0]; rfl) g⟩) (fun c => g_r_undo_0 ⟨fun _ => ⟨rfl, rfl, rfl⟩, fun g => absurd (by rw [h26, hz0]; rfl) g⟩))
end
