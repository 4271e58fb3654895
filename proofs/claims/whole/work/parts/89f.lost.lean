/-! ===== a plate is lost ===== -/
section
variable {nb db nc dc : Nat} {by_ rs : RX} {c : Nat} {mi mj : MI} {ml mk : ML} {t : Nat → Nat} {e p a w f : Nat} {x y z : Int32} {γ : SG} {lit nsy : Nat}
theorem P_lost (hd : db = 5 ∨ db = 43) (hr : γ 0 0 = 1) (W : PW γ lit nsy) (P : PDc γ lit nsy db mi) (R : PDr γ lit nsy mj) {m3 m4 : MI} {n : Nat} (hn : n < (γ 0 5).toNat) (bn : bt (loB γ) n = 0) (h3 : pcN 32 (loB γ) < 3) (f1 : ∀ b, b ≠ 4 → m3 b = mi b) (h10 : m3 4 10 = mi 4 10) (h11 : m3 4 11 = mi 4 11) (f2 : ∀ b, b ≠ 48 → m4 b = mj b) (f3 : ∀ k, k < 34 → m4 48 k = mj 48 k) :
    PW (u2 γ 0 10 ((loB γ ||| 2 ^ n : Nat) : Int)) lit nsy ∧ PDc (u2 γ 0 10 ((loB γ ||| 2 ^ n : Nat) : Int)) lit nsy db (u2 m3 db 7 (nI (loB γ ||| 2 ^ n))) ∧ PDr (u2 γ 0 10 ((loB γ ||| 2 ^ n : Nat) : Int)) lit nsy (u2 (u2 m4 55 62 (nI (loB γ ||| 2 ^ n))) 48 20 (nI (pcN 32 (loB γ) + 1))) := by
  obtain ⟨hW, w1, w2, w3, w4, w5, w6, w7⟩ := W
  have h31 := hW.nn
  have e0 : ∀ k, k ≠ 10 → (u2 γ 0 10 ((loB γ ||| 2 ^ n : Nat) : Int)) 0 k = γ 0 k := fun k hk => u2_ne2 _ _ (Or.inr hk)
  have er : ∀ b, b ≠ 0 → (u2 γ 0 10 ((loB γ ||| 2 ^ n : Nat) : Int)) b = γ b := fun b hb => u2_o _ _ hb
  have e10 : (u2 γ 0 10 ((loB γ ||| 2 ^ n : Nat) : Int)) 0 10 = ((loB γ ||| 2 ^ n : Nat) : Int) := u2_s _ _ _ _
  have eo : opB (u2 γ 0 10 ((loB γ ||| 2 ^ n : Nat) : Int)) = opB γ := by unfold opB; rw [e0 5 (by decide), er 2 (by decide)]
  have es : shB (u2 γ 0 10 ((loB γ ||| 2 ^ n : Nat) : Int)) = shB γ := by unfold shB; rw [e0 5 (by decide), er 2 (by decide)]
  have et : stB (u2 γ 0 10 ((loB γ ||| 2 ^ n : Nat) : Int)) = stB γ := by unfold stB; rw [eo, es]
  have el : loB (u2 γ 0 10 ((loB γ ||| 2 ^ n : Nat) : Int)) = loB γ ||| 2 ^ n := by
    show ((u2 γ 0 10 ((loB γ ||| 2 ^ n : Nat) : Int)) 0 10).toNat = _
    rw [e10]; exact Int.toNat_natCast _
  have hlo : loB γ < 2 ^ (γ 0 5).toNat := by
    have h := hW.lost
    rw [p2Z] at h
    unfold loB; omega
  have hlt := or_lt31 hlo hn
  have hpc := pcN_or 32 (loB γ) n (by omega) bn
  refine ⟨⟨?_, ?_, fun z => ?_, w3, w4, by rw [et]; exact w5, w6, by rw [el, hpc]; omega⟩, ?_, ?_⟩
  · refine hW.next hr (fun k _ k10 _ _ _ _ _ => e0 k k10) ?_ ?_ ?_ ?_ ?_ (fun j => ?_) (fun j => ?_) (er 3 (by decide)) (er 4 (by decide)) (er 8 (by decide))
    · rw [e0 1 (by decide), w1.1]; omega
    · rw [e10, p2Z]; omega
    · rw [e0 11 (by decide), w1.2.2.2.1]; omega
    · rw [e0 12 (by decide)]; exact Or.inl w1.2.2.2.2.1
    · rw [e0 15 (by decide), w1.2.2.2.2.2.2.2]; omega
    · rw [er 1 (by decide)]; exact hW.lights j
    · rw [er 2 (by decide)]; exact hW.shut j
  · rw [e0 1 (by decide), e0 2 (by decide), e0 4 (by decide), e0 11 (by decide), e0 12 (by decide), e0 13 (by decide), e0 14 (by decide), e0 15 (by decide)]; exact w1
  · rw [e0 0 (by decide), hr] at z; exact absurd z (by decide)
  · obtain ⟨⟨a1, a2, a3, a4, a5, a6, a7, a8, a9, a10, a11, a12⟩, b, c1, c2⟩ := P
    have g : ∀ k, k ≠ 7 → (u2 m3 db 7 (nI (loB γ ||| 2 ^ n))) db k = mi db k := fun k hk => by rw [u2_ne2 _ _ (Or.inr hk), f1 db (by omega)]
    have gc : ∀ b, b ≠ 4 → b ≠ db → (u2 m3 db 7 (nI (loB γ ||| 2 ^ n))) b = mi b := fun b h1 h2 => by rw [u2_o _ _ h2, f1 b h1]
    refine ⟨⟨?_, ?_, ?_, ?_, ?_, ?_, ?_, ?_, ?_, ?_, ?_, ?_⟩, fun k hk => ?_, ?_, ?_⟩
    · rw [g 0 (by decide), e0 5 (by decide)]; exact a1
    · rw [g 1 (by decide), e0 6 (by decide)]; exact a2
    · rw [g 2 (by decide), e0 7 (by decide)]; exact a3
    · rw [g 3 (by decide), e0 8 (by decide)]; exact a4
    · rw [g 4 (by decide), e0 9 (by decide)]; exact a5
    · rw [g 5 (by decide), eo]; exact a6
    · rw [g 6 (by decide), es]; exact a7
    · rw [u2_s, e10]; rfl
    · rw [gc (db + 1) (by omega) (by omega), e0 5 (by decide), e0 6 (by decide)]; exact a9
    · rw [gc (db + 2) (by omega) (by omega), e0 5 (by decide), er 1 (by decide)]; exact a10
    · rw [gc (db + 3) (by omega) (by omega), e0 5 (by decide), er 3 (by decide)]; exact a11
    · rw [gc (db + 4) (by omega) (by omega), e0 9 (by decide), er 4 (by decide)]; exact a12
    · rw [gc (db + 2) (by omega) (by omega), gc (db + 3) (by omega) (by omega), er 1 (by decide), er 3 (by decide)]; exact b k hk
    · rw [u2_ne2 _ _ (Or.inl (by omega)), h10]; exact c1
    · rw [u2_ne2 _ _ (Or.inl (by omega)), h11]; exact c2
  · obtain ⟨a1, a2, a3, a4, a5, a6, a7, a8, a9, b1, b2, b3, b4⟩ := R
    have g : ∀ k, k < 34 → k ≠ 20 → (u2 (u2 m4 55 62 (nI (loB γ ||| 2 ^ n))) 48 20 (nI (pcN 32 (loB γ) + 1))) 48 k = mj 48 k := fun k hk h20 => by rw [u2_ne2 _ _ (Or.inr h20), u2_ne2 _ _ (Or.inl (by decide)), f3 k hk]
    have gc : ∀ b, b ≠ 48 → b ≠ 55 → (u2 (u2 m4 55 62 (nI (loB γ ||| 2 ^ n))) 48 20 (nI (pcN 32 (loB γ) + 1))) b = mj b := fun b h1 h2 => by rw [u2_o _ _ h1, u2_o _ _ h2, f2 b h1]
    have g5 : ∀ k, k ≠ 62 → (u2 (u2 m4 55 62 (nI (loB γ ||| 2 ^ n))) 48 20 (nI (pcN 32 (loB γ) + 1))) 55 k = mj 55 k := fun k hk => by rw [u2_o _ _ (by decide), u2_ne2 _ _ (Or.inr hk), f2 55 (by decide)]
    refine ⟨?_, ?_, ?_, ?_, ?_, ?_, ?_, ?_, ?_, ?_, ?_, ?_, ?_⟩
    · rw [g 13 (by decide) (by decide), e0 5 (by decide)]; exact a1
    · rw [g 14 (by decide) (by decide), g 15 (by decide) (by decide), g 16 (by decide) (by decide), e0 0 (by decide), e0 6 (by decide), e0 7 (by decide), e0 8 (by decide)]; exact a2
    · rw [g 17 (by decide) (by decide), e0 9 (by decide)]; exact a3
    · rw [g 18 (by decide) (by decide), et]; exact a4
    · rw [g 19 (by decide) (by decide)]; exact a5
    · rw [u2_s, el, hpc]
    · rw [g 21 (by decide) (by decide)]; exact a7
    · rw [g 22 (by decide) (by decide), et]; exact a8
    · rw [g 23 (by decide) (by decide)]; exact a9
    · rw [gc 52 (by decide) (by decide), er 3 (by decide)]; exact b1
    · rw [gc 53 (by decide) (by decide), e0 9 (by decide), er 4 (by decide)]; exact b2
    · intro k hk
      rw [g5 k (by omega), g5 (31 + k) (by omega), er 1 (by decide), er 2 (by decide)]; exact b3 k hk
    · rw [u2_o _ _ (by decide), u2_s, e10]; rfl
theorem L_lost (hb : nb = 43 ∧ db = 5 ∨ nb = 5 ∧ db = 43) (he : e ≤ 800) (ht : ∀ k, t k ≤ 255) (A : AT t e a mi mj mk) (hk : tkK t e a = 2) (hr : γ 0 0 = 1) (W : PW γ lit nsy) (P : PDc γ lit nsy db mi) (R : PDr γ lit nsy mj) :
    ∃ r mi' mj' mk', Ret m_rd_takeLost [vR 12 0 4] (some (vI r)) c (MRc nb db (some (0, 800, 3)) rs) mi ml mi' ml ∧ Ret m_r_readLost [vR 19 0 48] none c (MRc nc dc (some (0, 800, 3)) rs) mj mk mj' mk' ∧ LR t e a db r mi mi' mj mj' mk mk' := by
  have hd : db = 5 ∨ db = 43 := by omega
  obtain ⟨N, eN, h3, h31, zN, tN⟩ := gN W.1 hr
  have L0 := R_lostCount (nb := nb) (db := db) (by_ := some (0, 800, 3)) (rs := rs) (c := c) (ml := ml) (show db = 43 ∨ db = 5 by omega) W.1 P.1
  have w7 : los γ ≤ 3 := W.2.2.2.2.2.2.2
  have x20 : mj 48 20 = nI (los γ) := R.2.2.2.2.2.1
  have nz := nN0 h3 h31 (R.1.trans zN)
  have lo31 := lo_lt W.1
  by_cases full : los γ = 3
  · rw [full] at L0 x20
    exact ⟨nI 0, _, _, mk, g_rd_takeLost_0 hb ⟨_, L0, fun z => absurd z (by decide), fun _ => ⟨rfl, rfl, rfl⟩⟩, g_r_readLost_0 ⟨fun z => absurd x20 z, fun _ => ⟨_, _, B_full nz A.2.2.2.2.2.1, _, _, _, D_readNew (DR.mk0 (f := 4) (by decide) (by decide)) _, fun z => absurd z (DR.mk0 (f := 4) (by decide) (by decide)).np, fun _ => ⟨rfl, rfl, rfl⟩⟩⟩, FSc.fl.l, FSr.fl.l, Or.inr ⟨rfl, 4, a, DD.at A (by decide) (by decide)⟩⟩
  · have l3 : nI (los γ) < nI 3 := (nI_ltI (by omega) (by decide)).mpr (by omega)
    have n3 : ¬ mj 48 20 = nI 3 := by rw [x20, nI_eq (by omega) (by decide)]; exact full
    obtain ⟨mi1, mj1, mk1, c1, d1, A1, f1, g1⟩ := J_next (nc := nc) (dc := dc) (nb := nb) (db := db) (rs := rs) (c := c) (ml := ml) he ht A (by rw [hk]; decide)
    have P1 := P.fr hd f1.s
    have R1 := R.fr g1.s
    have ae := (tk_word hk).1
    have n1 := nxA_in (t := t) ae
    have x7 : mi1 db 7 = nI (loB γ) := P1.1.2.2.2.2.2.2.2.1.trans (lo_nI W.1)
    have x62 : mj1 55 62 = nI (loB γ) := R1.2.2.2.2.2.2.2.2.2.2.2.2.trans (lo_nI W.1)
    have d1' := B_ok nz d1
    obtain ⟨r2, v2, mi2, mj2, mk2, c2, d2, f2, g2, Q2⟩ := J_new (nc := nc) (dc := dc) (c := c) (rs := rs) (ml := ml) (x := nI (loB γ)) hb he ht (show 0 < N by omega) h31 lo31 A1 (P1.1.1.trans zN) (R1.1.trans zN) rfl
    have c2' : Ret m_rd_takeNew [vR 12 0 4, vI (mi1 db 7)] (some (vI r2)) c (MRc nb db (some (0, 800, 3)) rs) mi1 ml mi2 ml := by rw [x7]; exact c2
    have d2' : Ret m_r_readNew [vR 19 0 48, vI (mj1 55 62)] (some (vI v2)) c (MRc nc dc (some (0, 800, 3)) rs) mj1 mk1 mj2 mk2 := by rw [x62]; exact d2
    rcases Q2 with ⟨er2, ae1, ⟨n, hn, bn, ev2, e9⟩, A2⟩ | ⟨er2, f, D2⟩
    · subst er2 ev2
      have n2 := nxA_in (t := t) ae1
      have eo : mi2 db 7 ||| (nI 1 <<< (mi2 4 9 &&& 31)) = nI (loB γ ||| 2 ^ n) := or_n (by rw [f2.1 db (by omega)]; exact x7) e9 (by omega)
      have m62 : mj2 55 62 ||| (nI 1 <<< (nI n &&& 31)) = nI (loB γ ||| 2 ^ n) := or_n (by rw [g2.1 55 (by decide)]; exact x62) rfl (by omega)
      have m20 : mj2 48 20 + nI 1 = nI (pcN 32 (loB γ) + 1) := inc (by rw [g2.2.1 20 (by omega), g1.2.1 20 (by omega)]; exact x20)
      have h38 : mj2 48 38 ≤ 0 := by rw [A2.2.2.2.2.2.1]; decide
      obtain ⟨W', P', R'⟩ := P_lost (m3 := mi2) (m4 := mj2) hd hr W P R (show n < (γ 0 5).toNat by omega) bn (show los γ < 3 by omega) (fun b hb4 => by rw [f2.1 b hb4, f1.1 b hb4]) (by rw [f2.2 10 (by omega), f1.2 10 (by omega)]) (by rw [f2.2 11 (by omega), f1.2 11 (by omega)]) (fun b hb4 => by rw [g2.1 b hb4, g1.1 b hb4]) (fun k hk => by rw [g2.2.1 k (by omega), g1.2.1 k (by omega)])
      refine ⟨nI 1, u2 mi2 db 7 (nI (loB γ ||| 2 ^ n)), u2 (u2 mj2 55 62 (nI (loB γ ||| 2 ^ n))) 48 20 (nI (pcN 32 (loB γ) + 1)), mk2, g_rd_takeLost_0 hb ⟨_, L0, fun _ => ⟨_, _, c1, _, _, _, c2', fun _ => by rw [eo]; exact ⟨rfl, rfl, rfl⟩, fun z => absurd z (by decide)⟩, fun z => absurd l3 z⟩, g_r_readLost_0 ⟨fun _ => ⟨_, _, d1', _, _, _, d2', fun _ => by rw [m62, m20]; exact ⟨rfl, rfl, rfl⟩, fun z => absurd h38 z⟩, fun z => absurd z n3⟩, ((f1.s.l).tr f2.l).tr (FLc.d _ (by omega) hd), (((g1.s.l).tr g2.l).tr (FLr.d _ (by decide))).tr (FLr.k _ (by decide)), Or.inl ⟨rfl, _, _, _, nxA t e (nxA t e a), ?_, ?_, ?_, W', P', R'⟩⟩
      · omega
      · rw [u2_ne2 _ _ (Or.inr (by decide))]; exact hr
      · exact ((A2.co _ (by omega) (by omega)).ro _ (by omega)).ro _ (by omega)
    · subst er2
      exact ⟨nI 0, mi2, mj2, mk2, g_rd_takeLost_0 hb ⟨_, L0, fun _ => ⟨_, _, c1, _, _, _, c2', fun z => absurd rfl z, fun _ => ⟨rfl, rfl, rfl⟩⟩, fun z => absurd l3 z⟩, g_r_readLost_0 ⟨fun _ => ⟨_, _, d1', _, _, _, d2', fun z => absurd z D2.2.2.1.np, fun _ => ⟨rfl, rfl, rfl⟩⟩, fun z => absurd z n3⟩, (f1.s.l).tr f2.l, (g1.s.l).tr g2.l, Or.inr ⟨rfl, f, _, D2⟩⟩
end
