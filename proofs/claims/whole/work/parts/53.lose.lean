/-! ===== acts: lose ===== -/
section
variable {nb db b : Nat} {by_ rs : RX} {c : Nat} {σ σ' : SG} {mi mi' mj mj' m1 m2 : MI} {ml mk : ML} {x j : Int32}
theorem V_lose (hb : nb = 43 ∧ db = 5 ∨ nb = 5 ∧ db = 43) (F : FC σ nb mi ml) (R : FR σ mj) : Adv m_w_lose m_r_lose [vI j] nb db by_ rs σ mi ml mj mk := by
  have I := F.1
  have J := R.1
  have hW := I.1
  have hs := J.2.1
  have hbb := hbb_of hb
  by_cases h : InK σ 5 j
  · obtain ⟨p, ep, hp⟩ := h.nat
    have hp31 := InK.n31 hW hp
    have hB := I.2.2 h.1
    have e := bit_i ((hB.w hbb (nI 0)).lo hW) ep (lo_lt hW) (show p < 32 by omega)
    have z := bt_01 (loB σ) p
    have hH : ∀ c, Ret m_r_has [vI (mj 54 62), vI j] (some (vI (nI (bt (loB σ) p)))) c (MRc nb db by_ rs) (u2 mj 48 0 (nI 0)) mk (u2 mj 48 0 (nI 0)) mk := fun c => R_has (RMs.lob hW hs) ep (lo_lt hW) (by omega)
    by_cases hbt : bt (loB σ) p = 1
    · exact Adv.ofA hb F R (Agr.mk (vI (-(nI 1))) 5 (by decide) (fun c => g_w_lose_0 hb ⟨_, _, _, R_one_t hb I h, fun g => absurd g n10, fun _ => ⟨fun g => absurd (by rw [e, hbt]) g, fun _ => ⟨rfl, (u2_u2 _ _ _ _ _).symm, rfl⟩⟩⟩) (fun c => g_r_lose_0 ⟨_, R_is_t hW (RMs_th hs _) h, fun _ => ⟨_, hH c, fun g => absurd hbt (bt_r.mp g), fun _ => ⟨rfl, rfl, rfl⟩⟩, fun g => absurd g n10⟩))
    have hac := hW.ac
    obtain ⟨K, hK⟩ : ∃ K : Nat, σ 0 15 = K := ⟨(σ 0 15).toNat, by omega⟩
    have hlo := hW.lost
    have hL : σ 0 10 = ((loB σ : Nat) : Int) := by unfold loB; omega
    have hpn : p < (σ 0 5).toNat := by omega
    have h2p : 2 ^ p < 2 ^ (σ 0 5).toNat := Nat.pow_lt_pow_right (by decide) hpn
    have hLn : loB σ < 2 ^ (σ 0 5).toNat := by
      have h2 := hlo.2
      rw [hL, p2Z] at h2
      omega
    have hor : loB σ ||| 2 ^ p < 2 ^ (σ 0 5).toNat := Nat.or_lt_two_pow hLn h2p
    obtain ⟨M, hM⟩ : ∃ M : Nat, M = loB σ ||| 2 ^ p := ⟨_, rfl⟩
    rw [← hM] at hor
    intro c
    have ev : mj 54 62 ||| (nI 1 <<< (j &&& 31)) = nI M := by rw [or_n (RMs.lob hW hs) ep hp31, hM]
    obtain ⟨τ, hσ⟩ : ∃ τ : SG, τ = u2 (actS σ K 2 p 0) 0 10 (M : Int) := ⟨_, rfl⟩
    have t1 : τ 1 = σ 1 := by rw [hσ, u2_o _ _ (by decide)]; rfl
    have t2 : τ 2 = σ 2 := by rw [hσ, u2_o _ _ (by decide)]; rfl
    have t10 : τ 0 10 = M := by rw [hσ, u2_s]
    have hx : ∀ k, k < 63 → k ≠ 62 → xv τ k = xv σ k := fun k hk e => by
      unfold xv
      rw [t1, t2]
      by_cases e2 : k < 31
      · rw [if_pos e2, if_pos e2]
      · have e3 : k < 62 := by omega
        rw [if_neg e2, if_neg e2, if_pos e3, if_pos e3]
    have A : ActOf σ τ K 2 p 0 := by
      rw [hσ]
      refine actS_of σ K 2 p 0 0 10 M (Or.inl ⟨rfl, rfl⟩) (fun k hk => ?_)
      rw [← hσ]
      unfold und
      rw [if_neg (show ¬ (2 : Int) = 0 by decide), if_neg (show ¬ (2 : Int) = 1 by decide)]
      by_cases e : k = 62
      · rw [if_pos e, e, xv_62, xv_62, t10, Int.toNat_natCast, hM, clr_or (lo_lt hW) hp31 hbt, hL]
      · rw [if_neg e, hx k hk e]
    have s0 : ∀ k, k = 5 ∨ k = 6 ∨ k = 7 ∨ k = 8 ∨ k = 9 → τ 0 k = σ 0 k := fun k hk => A.1 k (by omega) (by omega) (by omega) (by omega) (by omega)
    have hop : opB τ = opB σ := by unfold opB; rw [t2, s0 5 (by omega)]
    have hsh : shB τ = shB σ := by unfold shB; rw [t2, s0 5 (by omega)]
    obtain ⟨m2, MJ, n0, r0, rw_, mB, go⟩ := act_go (c := c) (db := db) (by_ := by_) (rs := rs) (mk := mk) (p0 := 62) (js := nI 2) (nn := j) (bb := nI 0) (v := mj 54 62 ||| (nI 1 <<< (j &&& 31))) (by omega) hK h.1 F R A (by
      rw [t10, p2Z]
      exact ⟨by omega, by omega⟩) (fun k => by rw [t1]; exact hW.lights k) (fun k => by rw [t2]; exact hW.shut k) ⟨by omega, hp⟩ (Or.inr (Or.inr rfl)) hbb rfl (by rw [ep]; rfl) rfl (by rw [xv_62, t10, ev]; rfl) hx
    obtain ⟨MW, hmi⟩ : ∃ MW : MI, MW = u2 (u2 (u2 m2 nb 7 (m2 nb 7 ||| (nI 1 <<< (j &&& 31)))) 11 2 (nI 0)) 11 3 (nI 0) := ⟨_, rfl⟩
    have w1 : ∀ a, a ≠ 11 → a ≠ nb → MW a = m2 a := fun a h1 h2 => by rw [hmi, u2_o _ _ h1, u2_o _ _ h1, u2_o _ _ h2]
    have w2 : ∀ k, k ≠ 7 → MW nb k = mi nb k := fun k h7 => by rw [hmi, u2_o _ _ (by omega), u2_o _ _ (by omega), u2_ne2 _ _ (Or.inr h7), mB nb (by omega) (by omega)]
    have w3 : MW nb 7 = nI M := by rw [hmi, u2_o _ _ (by omega), u2_o _ _ (by omega), u2_s, mB nb (by omega) (by omega), or_n (hB.lo hW) ep hp31, hM]
    have w4 : ∀ i, 0 < i → i < 5 → MW (nb + i) = mi (nb + i) := fun i h0 h1 => by rw [w1 _ (by omega) (by omega), mB _ (by omega) (by omega)]
    obtain ⟨g1, g2, g3, g4, g5, g6⟩ := go MW (fun q h1 h2 => w1 q h1 (by omega)) (fun k h2 h3 => by rw [hmi, u2_ne2 _ _ (Or.inr h3), u2_ne2 _ _ (Or.inr h2), u2_o _ _ (by omega)]) (by rw [hmi, u2_ne2 _ _ (Or.inr (by decide)), u2_s]) (by rw [hmi, u2_s])
      (hB.upd (fun k _ _ h7 => w2 k h7) (by rw [w2 5 (by decide), hB.2.2.2.2.2.1, hop]) (by rw [w2 6 (by decide), hB.2.2.2.2.2.2.1, hsh]) (by rw [w3, t10]; rfl) (w4 1 (by decide) (by decide)) (fun i hi => by rw [w4 2 (by decide) (by decide), t1, hB.li hi]) (w4 3 (by decide) (by decide)) (w4 4 (by decide) (by decide)) s0 A.2.2.2.2.2.1 A.2.2.2.2.2.2.1)
    have eself : u2 (u2 MJ 48 1 (nI 0)) 48 2 (-(nI 1)) = MJ := by rw [u2_id2 rw_.1, u2_id2 rw_.2]
    refine ⟨vI (nI (los τ)), τ, MW, ml, MJ, mk, g_w_lose_0 hb ⟨_, _, _, R_one_t hb I h, fun g => absurd g n10, fun _ => ⟨fun _ => ⟨m2, ml, ?_, nI (los τ), ?_, rfl, hmi, rfl⟩, fun g => absurd g ?_⟩⟩, g_r_lose_0 ⟨_, R_is_t hW (RMs_th hs _) h, fun _ => ⟨_, hH c, fun _ => ⟨_, _, _, r0, _, R_losses g2.1.1 g2.1.2.1, rfl, eself.symm, rfl⟩, fun g => absurd (bt_r.mpr hbt) g⟩, fun g => absurd g n10⟩, g1, g2, g3, g4, g5, fun _ _ => rfl, g6, fun _ _ => rfl, rfl⟩
    · rw [u2_u2]; exact n0
    · rw [← hmi]; exact R_lostCount hbb g1.1.1 (g1.1.2.2 (g3.2.2.2.1.trans h.1))
    · rw [e, nI_01 z]; exact hbt
  · exact Adv.ofA hb F R (Agr.mk (vI (-(nI 1))) 1 (by decide) (fun c => g_w_lose_0 hb ⟨_, _, _, R_one_f hb I h, fun _ => ⟨rfl, rfl, rfl⟩, fun g => absurd rfl g⟩) (fun c => g_r_lose_0 ⟨_, R_is_f hW (RMs_th hs _) h, fun g => absurd rfl g, fun _ => ⟨rfl, rfl, rfl⟩⟩))
end
