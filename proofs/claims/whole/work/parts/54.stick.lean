/-! ===== acts: stick ===== -/
theorem bits_set {f g : Nat → Bool} {n j : Nat} (hn : n ≤ 31) (hj : j < n) (hg : g j = true) (h : ∀ k, k ≠ j → g k = f k) {x y : Int32} (hx : x = nI (bitsOf f n)) (hy : y = nI j) : (x &&& (nI 1 <<< (y &&& 31) ^^^ -(nI 1))) ||| (nI 1 <<< (y &&& 31)) = nI (bitsOf g n) :=
  bits_on (f := fun k => if k = j then false else f k) hn hj hg (fun k hk => by rw [h k hk, if_neg hk]) (bits_off hn hj (if_pos rfl) (fun k hk => if_neg hk) hx hy) hy
section
variable {nb db b : Nat} {by_ rs : RX} {c : Nat} {σ σ' : SG} {mi mi' mj mj' m1 m2 : MI} {ml mk : ML} {x j : Int32}
theorem V_stick {a : Int32} (hb : nb = 43 ∧ db = 5 ∨ nb = 5 ∧ db = 43) (F : FC σ nb mi ml) (R : FR σ mj) : Adv m_w_stick m_r_stick [vI j, vI a] nb db by_ rs σ mi ml mj mk := by
  have I := F.1
  have J := R.1
  have hW := I.1
  have hs := J.2.1
  have hbb := hbb_of hb
  by_cases h : InK σ 5 j
  · by_cases h1 : a < 0
    · exact Adv.ofA hb F R (Agr.mk (vI (-(nI 1))) 2 (by decide) (fun c => g_w_stick_0 hb ⟨_, _, _, R_one_t hb I h, fun g => absurd g n10, fun _ => ⟨fun _ => ⟨rfl, (u2_u2 _ _ _ _ _).symm, rfl⟩, fun g => absurd h1 g⟩⟩) (fun c => g_r_stick_0 ⟨_, R_is_t hW (RMs_th hs _) h, fun _ => ⟨fun _ => ⟨rfl, rfl, rfl⟩, fun g => absurd h1 g⟩, fun g => absurd g n10⟩))
    by_cases h2 : nI 2 < a
    · exact Adv.ofA hb F R (Agr.mk (vI (-(nI 1))) 2 (by decide) (fun c => g_w_stick_0 hb ⟨_, _, _, R_one_t hb I h, fun g => absurd g n10, fun _ => ⟨fun g => absurd g h1, fun _ => ⟨fun _ => ⟨rfl, (u2_u2 _ _ _ _ _).symm, rfl⟩, fun g => absurd h2 g⟩⟩⟩) (fun c => g_r_stick_0 ⟨_, R_is_t hW (RMs_th hs _) h, fun _ => ⟨fun g => absurd g h1, fun _ => ⟨fun _ => ⟨rfl, rfl, rfl⟩, fun g => absurd h2 g⟩⟩, fun g => absurd g n10⟩))
    obtain ⟨H, hH, eH⟩ := num2 (by decide) h1 h2
    obtain ⟨p, ep, hp⟩ := h.nat
    have hp31 := InK.n31 hW hp
    have hac := hW.ac
    have hnn := hW.nn
    obtain ⟨K, hK⟩ : ∃ K : Nat, σ 0 15 = K := ⟨(σ 0 15).toNat, by omega⟩
    have hB := I.2.2 h.1
    have hBn := hB.w hbb (nI 0)
    have hsp := hW.shut p
    have e5 := op_at hW hp hp31
    have e6 := sh_at hW hp hp31
    rw [← hBn.2.2.2.2.2.1, ← ep] at e5
    rw [← hBn.2.2.2.2.2.2.1, ← ep] at e6
    intro c
    obtain ⟨τ, hσ⟩ : ∃ τ : SG, τ = u2 (actS σ K 1 p (σ 2 p)) 2 p (H : Int) := ⟨_, rfl⟩
    have t2 : ∀ k, τ 2 k = if k = p then (H : Int) else σ 2 k := fun k => by
      rw [hσ, u2_if]
      by_cases e : k = p
      · rw [if_pos ⟨rfl, e⟩, if_pos e]
      · rw [if_neg (fun z => e z.2), if_neg e]; rfl
    have t1 : τ 1 = σ 1 := by rw [hσ, u2_o _ _ (by decide)]; rfl
    have t10 : τ 0 10 = σ 0 10 := by rw [hσ, u2_o _ _ (by decide)]; rfl
    have hx : ∀ k, k < 63 → k ≠ 31 + p → xv τ k = xv σ k := fun k hk e => by
      unfold xv
      rw [t1, t10]
      by_cases e2 : k < 31
      · rw [if_pos e2, if_pos e2]
      · rw [if_neg e2, if_neg e2, t2, if_neg (show ¬ k - 31 = p by omega)]
    have A : ActOf σ τ K 1 p (σ 2 p) := by
      rw [hσ]
      refine actS_of σ K 1 p (σ 2 p) 2 p H (by omega) (fun k hk => ?_)
      rw [← hσ]
      unfold und
      rw [if_neg (show ¬ (1 : Int) = 0 by decide), if_pos rfl, Int.toNat_natCast]
      by_cases e : k = 31 + p
      · rw [if_pos e, e, xv_sh σ hp31]
      · rw [if_neg e, hx k hk e]
    have s0 : ∀ k, k = 5 ∨ k = 6 ∨ k = 7 ∨ k = 8 ∨ k = 9 → τ 0 k = σ 0 k := fun k hk => A.1 k (by omega) (by omega) (by omega) (by omega) (by omega)
    have eop : opB τ = bitsOf (fun j => τ 2 j == 1) (σ 0 5).toNat := by unfold opB; rw [s0 5 (by omega)]
    have esh : shB τ = bitsOf (fun j => τ 2 j == 2) (σ 0 5).toNat := by unfold shB; rw [s0 5 (by omega)]
    obtain ⟨m2, MJ, n0, r0, -, mB, go⟩ := act_go (c := c) (db := db) (by_ := by_) (rs := rs) (mk := mk) (p0 := 31 + p) (js := nI 1) (nn := j) (bb := zI (σ 2 p)) (v := a) (by omega) hK h.1 F R A (by rw [t10]; exact hW.lost) (fun k => by rw [t1]; exact hW.lights k) (fun k => by
      rw [t2]
      by_cases e : k = p
      · rw [if_pos e]; omega
      · rw [if_neg e]; exact hW.shut k) ⟨by omega, hp⟩ (Or.inr (Or.inl ⟨rfl, hsp⟩)) hbb rfl (by rw [ep]; rfl) rfl (by rw [xv_sh τ hp31, t2, if_pos rfl, eH]; rfl) hx
    rw [J.2.2.2.2.1 p hp] at r0
    have hR : Ret m_r_stick [vR 19 0 48, vI j, vI a] (some (vI (zI (σ 2 p)))) c (MRc nb db by_ rs) mj mk MJ mk := g_r_stick_0 ⟨_, R_is_t hW (RMs_th hs _) h, fun _ => ⟨fun g => absurd g h1, fun _ => ⟨fun g => absurd g h2, fun _ => ⟨_, _, _, (by rw [ep, nI_add]; exact r0), rfl, rfl, rfl⟩⟩⟩, fun g => absurd g n10⟩
    have hpn : p < (σ 0 5).toNat := by omega
    have hn31 : (σ 0 5).toNat ≤ 31 := by omega
    have x5 : m2 nb 5 = nI (bitsOf (fun j => σ 2 j == 1) (σ 0 5).toNat) := by rw [mB nb (by omega) (by omega)]; exact hB.2.2.2.2.2.1
    have x6 : m2 nb 6 = nI (bitsOf (fun j => σ 2 j == 2) (σ 0 5).toNat) := by rw [mB nb (by omega) (by omega)]; exact hB.2.2.2.2.2.2.1
    have off : ∀ (d : Int) (x : Int32), x = nI (bitsOf (fun j => σ 2 j == d) (σ 0 5).toNat) → ((H : Int) == d) = false → x &&& (nI 1 <<< (j &&& 31) ^^^ -(nI 1)) = nI (bitsOf (fun j => τ 2 j == d) (σ 0 5).toNat) := fun d x hx hd => bits_off hn31 hpn (by show (τ 2 p == d) = false; rw [t2, if_pos rfl]; exact hd) (fun k hk => by show (τ 2 k == d) = (σ 2 k == d); rw [t2, if_neg hk]) hx ep
    have set_ : ∀ (d : Int) (x : Int32), x = nI (bitsOf (fun j => σ 2 j == d) (σ 0 5).toNat) → ((H : Int) == d) = true → (x &&& (nI 1 <<< (j &&& 31) ^^^ -(nI 1))) ||| (nI 1 <<< (j &&& 31)) = nI (bitsOf (fun j => τ 2 j == d) (σ 0 5).toNat) := fun d x hx hd => bits_set hn31 hpn (by show (τ 2 p == d) = true; rw [t2, if_pos rfl]; exact hd) (fun k hk => by show (τ 2 k == d) = (σ 2 k == d); rw [t2, if_neg hk]) hx ep
    have core := fun (m3 : MI) (q1 : ∀ a, a ≠ nb → m3 a = m2 a) (q2 : ∀ k, k ≠ 5 → k ≠ 6 → m3 nb k = m2 nb k) (q5 : m3 nb 5 = nI (opB τ)) (q6 : m3 nb 6 = nI (shB τ)) => go (u2 (u2 m3 11 2 (nI 0)) 11 3 (nI 0)) (fun q h1 h2 => by rw [u2_o _ _ h1, u2_o _ _ h1, q1 q (by omega)]) (fun k h2 h3 => by rw [u2_ne2 _ _ (Or.inr h3), u2_ne2 _ _ (Or.inr h2), q1 11 (by omega)]) (by rw [u2_ne2 _ _ (Or.inr (by decide)), u2_s]) (u2_s _ _ _ _)
      (hB.upd (fun k h5 h6 _ => by rw [u2_o _ _ (by omega), u2_o _ _ (by omega), q2 k h5 h6, mB nb (by omega) (by omega)]) (by rw [u2_o _ _ (by omega), u2_o _ _ (by omega), q5]) (by rw [u2_o _ _ (by omega), u2_o _ _ (by omega), q6]) (by rw [u2_o _ _ (by omega), u2_o _ _ (by omega), q2 7 (by decide) (by decide), mB nb (by omega) (by omega), hB.2.2.2.2.2.2.2.1, t10]) (by rw [u2_o _ _ (by omega), u2_o _ _ (by omega), q1 (nb + 1) (by omega), mB (nb + 1) (by omega) (by omega)]) (fun i hi => by rw [u2_o _ _ (by omega), u2_o _ _ (by omega), q1 (nb + 2) (by omega), mB (nb + 2) (by omega) (by omega), t1, hB.li hi]) (by rw [u2_o _ _ (by omega), u2_o _ _ (by omega), q1 (nb + 3) (by omega), mB (nb + 3) (by omega) (by omega)]) (by rw [u2_o _ _ (by omega), u2_o _ _ (by omega), q1 (nb + 4) (by omega), mB (nb + 4) (by omega) (by omega)]) s0 A.2.2.2.2.2.1 A.2.2.2.2.2.2.1)
    have h3 : H = 0 ∨ H = 1 ∨ H = 2 := by omega
    rcases h3 with e | e | e
    · have y1 : ¬ a = nI 1 := by rw [eH, e]; decide
      have y2 : ¬ a = nI 2 := by rw [eH, e]; decide
      obtain ⟨g1, g2, g3, g4, g5, g6⟩ := core (u2 (u2 m2 nb 5 (m2 nb 5 &&& (nI 1 <<< (j &&& 31) ^^^ -(nI 1)))) nb 6 (m2 nb 6 &&& (nI 1 <<< (j &&& 31) ^^^ -(nI 1)))) (fun q h => by rw [u2_o _ _ h, u2_o _ _ h]) (fun k h5 h6 => by rw [u2_ne2 _ _ (Or.inr h6), u2_ne2 _ _ (Or.inr h5)]) (by rw [u2_ne2 _ _ (Or.inr (by decide)), u2_s, off 1 _ x5 (by rw [e]; rfl), eop]) (by rw [u2_s, off 2 _ x6 (by rw [e]; rfl), esh])
      rcases hW.shut p with z | z | z
      · refine ⟨vI (zI (σ 2 p)), τ, _, ml, MJ, mk, g_w_stick_0 hb ⟨_, _, _, R_one_t hb I h, fun g => absurd g n10, fun _ => ⟨fun g => absurd g h1, fun _ => ⟨fun g => absurd g h2, fun _ => ⟨fun _ => ⟨fun _ => ⟨m2, ml, ?_, ⟨fun _ => ⟨fun _ => ⟨by rw [z]; rfl, rfl, rfl⟩, fun g => absurd g y2⟩, fun g => absurd g y1⟩⟩, fun g => absurd (e6.symm.trans g) (by rw [z]; decide)⟩, fun g => absurd (e5.symm.trans g) (by rw [z]; decide)⟩⟩⟩⟩, hR, g1, g2, g3, g4, g5, fun _ _ => rfl, g6, fun _ _ => rfl, rfl⟩
        rw [u2_u2]; rw [z] at n0; exact n0
      · refine ⟨vI (zI (σ 2 p)), τ, _, ml, MJ, mk, g_w_stick_0 hb ⟨_, _, _, R_one_t hb I h, fun g => absurd g n10, fun _ => ⟨fun g => absurd g h1, fun _ => ⟨fun g => absurd g h2, fun _ => ⟨fun g => absurd (e5.trans (by rw [z]; rfl)) g, fun _ => ⟨m2, ml, ?_, ⟨fun _ => ⟨fun _ => ⟨by rw [z]; rfl, rfl, rfl⟩, fun g => absurd g y2⟩, fun g => absurd g y1⟩⟩⟩⟩⟩⟩, hR, g1, g2, g3, g4, g5, fun _ _ => rfl, g6, fun _ _ => rfl, rfl⟩
        rw [u2_u2]; rw [z] at n0; exact n0
      · refine ⟨vI (zI (σ 2 p)), τ, _, ml, MJ, mk, g_w_stick_0 hb ⟨_, _, _, R_one_t hb I h, fun g => absurd g n10, fun _ => ⟨fun g => absurd g h1, fun _ => ⟨fun g => absurd g h2, fun _ => ⟨fun _ => ⟨fun g => absurd (e6.trans (by rw [z]; rfl)) g, fun _ => ⟨m2, ml, ?_, ⟨fun _ => ⟨fun _ => ⟨by rw [z]; rfl, rfl, rfl⟩, fun g => absurd g y2⟩, fun g => absurd g y1⟩⟩⟩, fun g => absurd (e5.symm.trans g) (by rw [z]; decide)⟩⟩⟩⟩, hR, g1, g2, g3, g4, g5, fun _ _ => rfl, g6, fun _ _ => rfl, rfl⟩
        rw [u2_u2]; rw [z] at n0; exact n0
    · have y1 : a = nI 1 := by rw [eH, e]
      have y2 : ¬ a = nI 2 := by rw [eH, e]; decide
      obtain ⟨g1, g2, g3, g4, g5, g6⟩ := core (u2 (u2 (u2 m2 nb 5 (m2 nb 5 &&& (nI 1 <<< (j &&& 31) ^^^ -(nI 1)))) nb 6 (m2 nb 6 &&& (nI 1 <<< (j &&& 31) ^^^ -(nI 1)))) nb 5 ((m2 nb 5 &&& (nI 1 <<< (j &&& 31) ^^^ -(nI 1))) ||| (nI 1 <<< (j &&& 31)))) (fun q h => by rw [u2_o _ _ h, u2_o _ _ h, u2_o _ _ h]) (fun k h5 h6 => by rw [u2_ne2 _ _ (Or.inr h5), u2_ne2 _ _ (Or.inr h6), u2_ne2 _ _ (Or.inr h5)]) (by rw [u2_s, set_ 1 _ x5 (by rw [e]; rfl), eop]) (by rw [u2_ne2 _ _ (Or.inr (by decide)), u2_s, off 2 _ x6 (by rw [e]; rfl), esh])
      rcases hW.shut p with z | z | z
      · refine ⟨vI (zI (σ 2 p)), τ, _, ml, MJ, mk, g_w_stick_0 hb ⟨_, _, _, R_one_t hb I h, fun g => absurd g n10, fun _ => ⟨fun g => absurd g h1, fun _ => ⟨fun g => absurd g h2, fun _ => ⟨fun _ => ⟨fun _ => ⟨m2, ml, ?_, ⟨fun g => absurd y1 g, fun _ => ⟨fun _ => ⟨by rw [z]; rfl, rfl, rfl⟩, fun g => absurd g y2⟩⟩⟩, fun g => absurd (e6.symm.trans g) (by rw [z]; decide)⟩, fun g => absurd (e5.symm.trans g) (by rw [z]; decide)⟩⟩⟩⟩, hR, g1, g2, g3, g4, g5, fun _ _ => rfl, g6, fun _ _ => rfl, rfl⟩
        rw [u2_u2]; rw [z] at n0; exact n0
      · refine ⟨vI (zI (σ 2 p)), τ, _, ml, MJ, mk, g_w_stick_0 hb ⟨_, _, _, R_one_t hb I h, fun g => absurd g n10, fun _ => ⟨fun g => absurd g h1, fun _ => ⟨fun g => absurd g h2, fun _ => ⟨fun g => absurd (e5.trans (by rw [z]; rfl)) g, fun _ => ⟨m2, ml, ?_, ⟨fun g => absurd y1 g, fun _ => ⟨fun _ => ⟨by rw [z]; rfl, rfl, rfl⟩, fun g => absurd g y2⟩⟩⟩⟩⟩⟩⟩, hR, g1, g2, g3, g4, g5, fun _ _ => rfl, g6, fun _ _ => rfl, rfl⟩
        rw [u2_u2]; rw [z] at n0; exact n0
      · refine ⟨vI (zI (σ 2 p)), τ, _, ml, MJ, mk, g_w_stick_0 hb ⟨_, _, _, R_one_t hb I h, fun g => absurd g n10, fun _ => ⟨fun g => absurd g h1, fun _ => ⟨fun g => absurd g h2, fun _ => ⟨fun _ => ⟨fun g => absurd (e6.trans (by rw [z]; rfl)) g, fun _ => ⟨m2, ml, ?_, ⟨fun g => absurd y1 g, fun _ => ⟨fun _ => ⟨by rw [z]; rfl, rfl, rfl⟩, fun g => absurd g y2⟩⟩⟩⟩, fun g => absurd (e5.symm.trans g) (by rw [z]; decide)⟩⟩⟩⟩, hR, g1, g2, g3, g4, g5, fun _ _ => rfl, g6, fun _ _ => rfl, rfl⟩
        rw [u2_u2]; rw [z] at n0; exact n0
    · have y1 : ¬ a = nI 1 := by rw [eH, e]; decide
      have y2 : a = nI 2 := by rw [eH, e]
      obtain ⟨g1, g2, g3, g4, g5, g6⟩ := core (u2 (u2 (u2 m2 nb 5 (m2 nb 5 &&& (nI 1 <<< (j &&& 31) ^^^ -(nI 1)))) nb 6 (m2 nb 6 &&& (nI 1 <<< (j &&& 31) ^^^ -(nI 1)))) nb 6 ((m2 nb 6 &&& (nI 1 <<< (j &&& 31) ^^^ -(nI 1))) ||| (nI 1 <<< (j &&& 31)))) (fun q h => by rw [u2_o _ _ h, u2_o _ _ h, u2_o _ _ h]) (fun k h5 h6 => by rw [u2_ne2 _ _ (Or.inr h6), u2_ne2 _ _ (Or.inr h6), u2_ne2 _ _ (Or.inr h5)]) (by rw [u2_ne2 _ _ (Or.inr (by decide)), u2_ne2 _ _ (Or.inr (by decide)), u2_s, off 1 _ x5 (by rw [e]; rfl), eop]) (by rw [u2_s, set_ 2 _ x6 (by rw [e]; rfl), esh])
      rcases hW.shut p with z | z | z
      · refine ⟨vI (zI (σ 2 p)), τ, _, ml, MJ, mk, g_w_stick_0 hb ⟨_, _, _, R_one_t hb I h, fun g => absurd g n10, fun _ => ⟨fun g => absurd g h1, fun _ => ⟨fun g => absurd g h2, fun _ => ⟨fun _ => ⟨fun _ => ⟨m2, ml, ?_, ⟨fun _ => ⟨fun g => absurd y2 g, fun _ => ⟨by rw [z]; rfl, rfl, rfl⟩⟩, fun g => absurd g y1⟩⟩, fun g => absurd (e6.symm.trans g) (by rw [z]; decide)⟩, fun g => absurd (e5.symm.trans g) (by rw [z]; decide)⟩⟩⟩⟩, hR, g1, g2, g3, g4, g5, fun _ _ => rfl, g6, fun _ _ => rfl, rfl⟩
        rw [u2_u2]; rw [z] at n0; exact n0
      · refine ⟨vI (zI (σ 2 p)), τ, _, ml, MJ, mk, g_w_stick_0 hb ⟨_, _, _, R_one_t hb I h, fun g => absurd g n10, fun _ => ⟨fun g => absurd g h1, fun _ => ⟨fun g => absurd g h2, fun _ => ⟨fun g => absurd (e5.trans (by rw [z]; rfl)) g, fun _ => ⟨m2, ml, ?_, ⟨fun _ => ⟨fun g => absurd y2 g, fun _ => ⟨by rw [z]; rfl, rfl, rfl⟩⟩, fun g => absurd g y1⟩⟩⟩⟩⟩⟩, hR, g1, g2, g3, g4, g5, fun _ _ => rfl, g6, fun _ _ => rfl, rfl⟩
        rw [u2_u2]; rw [z] at n0; exact n0
      · refine ⟨vI (zI (σ 2 p)), τ, _, ml, MJ, mk, g_w_stick_0 hb ⟨_, _, _, R_one_t hb I h, fun g => absurd g n10, fun _ => ⟨fun g => absurd g h1, fun _ => ⟨fun g => absurd g h2, fun _ => ⟨fun _ => ⟨fun g => absurd (e6.trans (by rw [z]; rfl)) g, fun _ => ⟨m2, ml, ?_, ⟨fun _ => ⟨fun g => absurd y2 g, fun _ => ⟨by rw [z]; rfl, rfl, rfl⟩⟩, fun g => absurd g y1⟩⟩⟩, fun g => absurd (e5.symm.trans g) (by rw [z]; decide)⟩⟩⟩⟩, hR, g1, g2, g3, g4, g5, fun _ _ => rfl, g6, fun _ _ => rfl, rfl⟩
        rw [u2_u2]; rw [z] at n0; exact n0
  · exact Adv.ofA hb F R (Agr.mk (vI (-(nI 1))) 1 (by decide) (fun c => g_w_stick_0 hb ⟨_, _, _, R_one_f hb I h, fun _ => ⟨rfl, rfl, rfl⟩, fun g => absurd rfl g⟩) (fun c => g_r_stick_0 ⟨_, R_is_f hW (RMs_th hs _) h, fun g => absurd rfl g, fun _ => ⟨rfl, rfl, rfl⟩⟩))
end
