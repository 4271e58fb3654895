/-! ===== a plate's noise ===== -/
section
variable {nb db nc dc : Nat} {by_ rs : RX} {c : Nat} {mi mj : MI} {ml mk : ML} {t : Nat → Nat} {e p a w f : Nat} {x y z : Int32} {γ : SG} {lit nsy : Nat}
theorem P_noise (hd : db = 5 ∨ db = 43) (hr : γ 0 0 = 1) (W : PW γ lit nsy) (P : PDc γ lit nsy db mi) (R : PDr γ lit nsy mj) {m3 m4 : MI} {n : Nat} {s : Int} (hn : n < 31) (hs : -99 ≤ s ∧ s ≤ 99) (bn : bt nsy n = 0) (h3 : pcN 32 nsy < 8) (f1 : ∀ b, b ≠ 4 → m3 b = mi b) (h10 : m3 4 10 = mi 4 10) (h11 : m3 4 11 = nI (nsy ||| 2 ^ n)) (f2 : ∀ b, b ≠ 48 → m4 b = mj b) (f3 : ∀ k, k < 34 → m4 48 k = mj 48 k) :
    PW (u2 γ 3 n s) lit (nsy ||| 2 ^ n) ∧ PDc (u2 γ 3 n s) lit (nsy ||| 2 ^ n) db (u2 m3 (db + 3) n (zI s)) ∧ PDr (u2 γ 3 n s) lit (nsy ||| 2 ^ n) (u2 (u2 (u2 m4 48 23 (nI (nsy ||| 2 ^ n))) 52 n (zI s)) 48 19 (nI (pcN 32 nsy + 1))) := by
  obtain ⟨hW, w1, w2, w3, w4, w5, w6, w7⟩ := W
  have h31 := hW.nn
  have e0 : (u2 γ 3 n s) 0 = γ 0 := u2_o _ _ (by decide)
  have e1 : (u2 γ 3 n s) 1 = γ 1 := u2_o _ _ (by decide)
  have e2 : (u2 γ 3 n s) 2 = γ 2 := u2_o _ _ (by decide)
  have e4 : (u2 γ 3 n s) 4 = γ 4 := u2_o _ _ (by decide)
  have e8 : (u2 γ 3 n s) 8 = γ 8 := u2_o _ _ (by decide)
  have e3 : ∀ k, (u2 γ 3 n s) 3 k = if k = n then s else γ 3 k := fun k => by
    by_cases h : k = n
    · rw [h, u2_s, if_pos rfl]
    · rw [u2_ne2 _ _ (Or.inr h), if_neg h]
  have eo : opB (u2 γ 3 n s) = opB γ := by unfold opB; rw [e0, e2]
  have es : shB (u2 γ 3 n s) = shB γ := by unfold shB; rw [e0, e2]
  have et : stB (u2 γ 3 n s) = stB γ := by unfold stB; rw [eo, es]
  have el : loB (u2 γ 3 n s) = loB γ := by unfold loB; rw [e0]
  have hpc := pcN_or 32 nsy n (by omega) bn
  refine ⟨⟨?_, by rw [e0]; exact w1, fun z => ?_, w3, or_lt31 w4 hn, by rw [et]; exact w5, by rw [hpc]; omega, by rw [el]; exact w7⟩, ?_, ?_⟩
  · obtain ⟨a1, a2, a3, a4, a5, a6, a7, a8, a9, a10, a11, a12, a13, a14⟩ := hW
    unfold WF
    rw [e0, e1, e2, e4, e8]
    refine ⟨a1, a2, a3, a4, a5, a6, a7, a8, a9, a10, a11, fun i => ?_, a13, a14⟩
    rw [e3 i]
    by_cases h : i = n
    · rw [if_pos h]; exact hs
    · rw [if_neg h]; exact a12 i
  · rw [e0, hr] at z; exact absurd z (by decide)
  · obtain ⟨⟨a1, a2, a3, a4, a5, a6, a7, a8, a9, a10, a11, a12⟩, b, c1, c2⟩ := P
    have g : ∀ b, b ≠ 4 → b ≠ db + 3 → (u2 m3 (db + 3) n (zI s)) b = mi b := fun b h1 h2 => by rw [u2_o _ _ h2, f1 b h1]
    have gl : ∀ k, k < 31 → (u2 m3 (db + 3) n (zI s)) (db + 3) k = zI ((u2 γ 3 n s) 3 k) := fun k hk => by
      rw [e3 k]
      by_cases h : k = n
      · rw [h, u2_s, if_pos rfl]
      · rw [u2_ne2 _ _ (Or.inr h), if_neg h, f1 _ (by omega)]; exact (b k hk).2
    refine ⟨⟨?_, ?_, ?_, ?_, ?_, ?_, ?_, ?_, ?_, ?_, ?_, ?_⟩, fun k hk => ⟨?_, gl k hk⟩, ?_, ?_⟩
    · rw [g db (by omega) (by omega), e0]; exact a1
    · rw [g db (by omega) (by omega), e0]; exact a2
    · rw [g db (by omega) (by omega), e0]; exact a3
    · rw [g db (by omega) (by omega), e0]; exact a4
    · rw [g db (by omega) (by omega), e0]; exact a5
    · rw [g db (by omega) (by omega), eo]; exact a6
    · rw [g db (by omega) (by omega), es]; exact a7
    · rw [g db (by omega) (by omega), e0]; exact a8
    · rw [g (db + 1) (by omega) (by omega), e0]; exact a9
    · rw [g (db + 2) (by omega) (by omega), e0, e1]; exact a10
    · intro i hi; rw [e0] at hi; exact gl i (by omega)
    · rw [g (db + 4) (by omega) (by omega), e0, e4]; exact a12
    · rw [g (db + 2) (by omega) (by omega), e1]; exact (b k hk).1
    · rw [u2_ne2 _ _ (Or.inl (by omega)), h10]; exact c1
    · rw [u2_ne2 _ _ (Or.inl (by omega))]; exact h11
  · obtain ⟨a1, a2, a3, a4, a5, a6, a7, a8, a9, b1, b2, b3, b4⟩ := R
    have g : ∀ k, k < 34 → k ≠ 23 → k ≠ 19 → (u2 (u2 (u2 m4 48 23 (nI (nsy ||| 2 ^ n))) 52 n (zI s)) 48 19 (nI (pcN 32 nsy + 1))) 48 k = mj 48 k := fun k hk h1 h2 => by rw [u2_ne2 _ _ (Or.inr h2), u2_ne2 _ _ (Or.inl (by decide)), u2_ne2 _ _ (Or.inr h1), f3 k hk]
    have gc : ∀ b, b ≠ 48 → b ≠ 52 → (u2 (u2 (u2 m4 48 23 (nI (nsy ||| 2 ^ n))) 52 n (zI s)) 48 19 (nI (pcN 32 nsy + 1))) b = mj b := fun b h1 h2 => by rw [u2_o _ _ h1, u2_o _ _ h2, u2_o _ _ h1, f2 b h1]
    refine ⟨?_, ?_, ?_, ?_, ?_, ?_, ?_, ?_, ?_, ?_, ?_, ?_, ?_⟩
    · rw [g 13 (by decide) (by decide) (by decide), e0]; exact a1
    · rw [g 14 (by decide) (by decide) (by decide), g 15 (by decide) (by decide) (by decide), g 16 (by decide) (by decide) (by decide), e0]; exact a2
    · rw [g 17 (by decide) (by decide) (by decide), e0]; exact a3
    · rw [g 18 (by decide) (by decide) (by decide), et]; exact a4
    · rw [u2_s, hpc]
    · rw [g 20 (by decide) (by decide) (by decide), el]; exact a6
    · rw [g 21 (by decide) (by decide) (by decide)]; exact a7
    · rw [g 22 (by decide) (by decide) (by decide), et]; exact a8
    · rw [u2_ne2 _ _ (Or.inr (by decide)), u2_ne2 _ _ (Or.inl (by decide)), u2_s]
    · intro k hk
      rw [e3 k, u2_o _ _ (by decide)]
      by_cases h : k = n
      · rw [h, u2_s, if_pos rfl]
      · rw [u2_ne2 _ _ (Or.inr h), if_neg h, u2_o _ _ (by decide), f2 52 (by decide)]; exact b1 k hk
    · rw [gc 53 (by decide) (by decide), e0, e4]; exact b2
    · intro k hk
      rw [gc 55 (by decide) (by decide), e1, e2]; exact b3 k hk
    · rw [gc 55 (by decide) (by decide), e0]; exact b4
theorem L_noise (hb : nb = 43 ∧ db = 5 ∨ nb = 5 ∧ db = 43) (he : e ≤ 800) (ht : ∀ k, t k ≤ 255) (A : AT t e a mi mj mk) (hk : tkK t e a = 2) (hr : γ 0 0 = 1) (W : PW γ lit nsy) (P : PDc γ lit nsy db mi) (R : PDr γ lit nsy mj) :
    ∃ r mi' mj' mk', Ret m_rd_takeNoise [vR 12 0 4] (some (vI r)) c (MRc nb db (some (0, 800, 3)) rs) mi ml mi' ml ∧ Ret m_r_readNoiseOf [vR 19 0 48] none c (MRc nc dc (some (0, 800, 3)) rs) mj mk mj' mk' ∧ LR t e a db r mi mi' mj mj' mk mk' := by
  have hd : db = 5 ∨ db = 43 := by omega
  obtain ⟨N, eN, h3, h31, zN, tN⟩ := gN W.1 hr
  have w4 := W.2.2.2.2.1
  have w6 : pcN 32 nsy ≤ 8 := W.2.2.2.2.2.2.1
  have L0 := R_bitCount (c := c) (mi := mi) (ml := ml) (mr := MRc nb db (some (0, 800, 3)) rs) (show nsy < 2 ^ 32 by omega) P.2.2.2
  have x19 : mj 48 19 = nI (pcN 32 nsy) := R.2.2.2.2.1
  have nz := nN0 h3 h31 (R.1.trans zN)
  by_cases full : pcN 32 nsy = 8
  · rw [full] at L0 x19
    have D := DR.mk0 (mj := mj) (f := 4) (by decide) (by decide)
    refine ⟨nI 0, _, u2 (u2 mj 48 38 (nI 4)) 48 35 (nI 0), mk, g_rd_takeNoise_0 hb ⟨_, L0, fun z => absurd z (by decide), fun _ => ⟨rfl, rfl, rfl⟩⟩, ?_, FSc.fl.l, FSr.fl.l, Or.inr ⟨rfl, 4, a, DD.at A (by decide) (by decide)⟩⟩
    exact g_r_readNoiseOf_0 ⟨fun z => absurd x19 z, fun _ => ⟨_, _, B_full nz A.2.2.2.2.2.1, _, _, _, D_readNew D _, _, _, _, D_isW D (by decide) (by decide), fun z => absurd rfl z, fun _ => ⟨_, _, _, D_isW D (by decide) (by decide), fun z => absurd rfl z, fun _ => ⟨fun _ => ⟨u2 (u2 mj 48 38 (nI 4)) 48 35 (nI 0), mk, by rw [D.id]; exact D_next D, _, _, _, D_readWhole D _ _, fun z => absurd z D.np, fun _ => ⟨rfl, rfl, rfl⟩⟩, fun z => absurd z D.nz⟩⟩⟩⟩
  · have l8 : nI (pcN 32 nsy) < nI 8 := (nI_ltI (by omega) (by decide)).mpr (by omega)
    have n8 : ¬ mj 48 19 = nI 8 := by rw [x19, nI_eq (by omega) (by decide)]; exact full
    obtain ⟨mi1, mj1, mk1, c1, d1, A1, f1, g1⟩ := J_next (nc := nc) (dc := dc) (nb := nb) (db := db) (rs := rs) (c := c) (ml := ml) he ht A (by rw [hk]; decide)
    have P1 := P.fr hd f1.s
    have R1 := R.fr g1.s
    have ae := (tk_word hk).1
    have n1 := nxA_in (t := t) ae
    have x11 : mi1 4 11 = nI nsy := P1.2.2.2
    have x23 : mj1 48 23 = nI nsy := R1.2.2.2.2.2.2.2.2.1
    have d1' := B_ok nz d1
    obtain ⟨r2, v2, mi2, mj2, mk2, c2, d2, f2, g2, Q2⟩ := J_new (nc := nc) (dc := dc) (c := c) (rs := rs) (ml := ml) (x := nI nsy) hb he ht (show 0 < N by omega) h31 w4 A1 (P1.1.1.trans zN) (R1.1.trans zN) rfl
    have c2' : Ret m_rd_takeNew [vR 12 0 4, vI (mi1 4 11)] (some (vI r2)) c (MRc nb db (some (0, 800, 3)) rs) mi1 ml mi2 ml := by rw [x11]; exact c2
    have d2' : Ret m_r_readNew [vR 19 0 48, vI (mj1 48 23)] (some (vI v2)) c (MRc nc dc (some (0, 800, 3)) rs) mj1 mk1 mj2 mk2 := by rw [x23]; exact d2
    rcases Q2 with ⟨er2, ae1, ⟨n, hn, bn, ev2, e9⟩, A2⟩ | ⟨er2, f, D2⟩
    · subst er2 ev2
      have n2 := nxA_in (t := t) ae1
      have P2 := P1.fr hd f2
      have eo : mi2 4 11 ||| (nI 1 <<< (mi2 4 9 &&& 31)) = nI (nsy ||| 2 ^ n) := or_n P2.2.2.2 e9 (by omega)
      have A2' := A2.u9 (mi2 4 11 ||| (nI 1 <<< (mi2 4 9 &&& 31))) (k := 11) (by decide)
      have F2 : FLc db mi (u2 mi2 4 11 (mi2 4 11 ||| (nI 1 <<< (mi2 4 9 &&& 31)))) := ((f1.s.l).tr f2.l).tr (FLc.k _ (by decide))
      have G2 : FLr mj mj2 mk mk2 := (g1.s.l).tr g2.l
      have cl : (mi2 4 9).toNatClampNeg = n := cln e9 (by omega)
      have cr : (nI n).toNatClampNeg = n := nI_clamp (by omega)
      have ix1 : vp_in (mi2 4 9) 31 := ixn e9 (by omega) (by decide)
      have ix2 : vp_in (nI n) 31 := vp_in_nI (by omega) (by decide)
      by_cases hw : isW t e (nxA t e (nxA t e a)) 13 ∨ isW t e (nxA t e (nxA t e a)) 14
      · have k2 : tkK t e (nxA t e (nxA t e a)) = 2 := by rcases hw with h | h <;> exact h.1
        have ae2 := (tk_word k2).1
        have n3 := nxA_in (t := t) ae2
        obtain ⟨mi4, mj4, mk4, c4, d4, A4, f4, g4⟩ := J_next (nc := nc) (dc := dc) (nb := nb) (db := db) (rs := rs) (c := c) (ml := ml) he ht A2' (by rw [k2]; decide)
        obtain ⟨r5, v5, mi5, mj5, mk5, c5, d5, f5, g5, Q5⟩ := J_whole (nc := nc) (dc := dc) (nb := nb) (db := db) (c := c) (rs := rs) (ml := ml) he ht (lo := 1) (hi := 99) (by decide) (by decide) A4
        have F5 := (F2.tr f4.s.l).tr f5.l
        have G5 := (G2.tr g4.s.l).tr g5.l
        rcases Q5 with ⟨er5, ae3, ⟨v, hv1, hv, ev5, e95⟩, A5⟩ | ⟨er5, f, D5⟩
        · subst er5 ev5
          have n4 := nxA_in (t := t) ae3
          have h38 : mj5 48 38 ≤ 0 := by rw [A5.2.2.2.2.2.1]; decide
          have m23 : mj5 48 23 ||| (nI 1 <<< (nI n &&& 31)) = nI (nsy ||| 2 ^ n) := or_n (by rw [g5.2.1 23 (by omega), g4.2.1 23 (by omega), g2.2.1 23 (by omega)]; exact x23) rfl (by omega)
          have m19 : mj5 48 19 + nI 1 = nI (pcN 32 nsy + 1) := inc (by rw [g5.2.1 19 (by omega), g4.2.1 19 (by omega), g2.2.1 19 (by omega), g1.2.1 19 (by omega)]; exact x19)
          have PP := fun s (hs : -99 ≤ s ∧ s ≤ 99) => P_noise (m3 := mi5) (m4 := mj5) (s := s) hd hr W P R (show n < 31 by omega) hs bn (by omega) (fun b hb4 => by rw [f5.1 b hb4, f4.1 b hb4, u2_o _ _ hb4, f2.1 b hb4, f1.1 b hb4]) (by rw [f5.2 10 (by omega), f4.2 10 (by omega), u2_ne2 _ _ (Or.inr (by decide)), f2.2 10 (by omega), f1.2 10 (by omega)]) (by rw [f5.2 11 (by omega), f4.2 11 (by omega), u2_s]; exact eo) (fun b hb4 => by rw [g5.1 b hb4, g4.1 b hb4, g2.1 b hb4, g1.1 b hb4]) (fun k hk => by rw [g5.2.1 k (by omega), g4.2.1 k (by omega), g2.2.1 k (by omega), g1.2.1 k (by omega)])
          have AA := fun v1 v2 v3 v4 : Int32 => (((A5.co (j := db + 3) (k := n) v1 (by omega) (by omega)).ro (j := 48) (k := 23) v2 (by omega)).ro (j := 52) (k := n) v3 (by omega)).ro (j := 48) (k := 19) v4 (by omega)
          have fin : ∀ s : Int, -99 ≤ s ∧ s ≤ 99 → LR t e a db (nI 1) mi (u2 mi5 (db + 3) n (zI s)) mj (u2 (u2 (u2 mj5 48 23 (nI (nsy ||| 2 ^ n))) 52 n (zI s)) 48 19 (nI (pcN 32 nsy + 1))) mk mk5 := fun s hs => by
            obtain ⟨W', P', R'⟩ := PP s hs
            refine ⟨F5.tr (FLc.d _ (by omega) hd), ((G5.tr (FLr.k _ (by decide))).tr (FLr.d _ (by decide))).tr (FLr.k _ (by decide)), Or.inl ⟨rfl, _, _, _, nxA t e (nxA t e (nxA t e (nxA t e a))), ?_, ?_, AA _ _ _ _, W', P', R'⟩⟩
            · omega
            · rw [u2_o _ _ (by decide)]; exact hr
          by_cases hp : isW t e (nxA t e (nxA t e a)) 13
          · refine ⟨nI 1, u2 mi5 (db + 3) n (zI v), u2 (u2 (u2 mj5 48 23 (nI (nsy ||| 2 ^ n))) 52 n (zI v)) 48 19 (nI (pcN 32 nsy + 1)), mk5, g_rd_takeNoise_0 hb ⟨_, L0, fun _ => ⟨_, _, c1, _, _, _, c2', fun _ => ⟨_, _, _, W_c_t A2'.2.1 A2'.2.2.1 he (by decide) (by decide) hp, fun _ => ⟨_, _, c4, _, _, _, c5, fun _ => ⟨fun z => absurd z (by decide), fun _ => ⟨ix1, ?_⟩⟩, fun z => absurd z (by decide)⟩, fun z => absurd z (by decide)⟩, fun z => absurd z (by decide)⟩, fun z => absurd l8 z⟩, g_r_readNoiseOf_0 ⟨fun _ => ⟨_, _, d1', _, _, _, d2', _, _, _, W_r_t A2.2.2.2.1 (by decide) (by decide) hp, fun _ => ⟨_, _, d4, _, _, _, d5, fun _ => ⟨fun z => absurd z (by decide), fun _ => ⟨ix2, ?_⟩⟩, fun z => absurd h38 z⟩, fun z => absurd z (by decide)⟩, fun z => absurd z n8⟩, fin v (by omega)⟩
            · rw [cl, e95]; exact ⟨rfl, rfl, rfl⟩
            · rw [cr, m23, m19]; exact ⟨rfl, rfl, rfl⟩
          · have hl : isW t e (nxA t e (nxA t e a)) 14 := by
              rcases hw with h | h
              · exact absurd h hp
              · exact h
            have en : -(nI v) = zI (-(v : Int)) := by rw [nI_z, zI_neg]
            refine ⟨nI 1, u2 mi5 (db + 3) n (zI (-(v : Int))), u2 (u2 (u2 mj5 48 23 (nI (nsy ||| 2 ^ n))) 52 n (zI (-(v : Int)))) 48 19 (nI (pcN 32 nsy + 1)), mk5, g_rd_takeNoise_0 hb ⟨_, L0, fun _ => ⟨_, _, c1, _, _, _, c2', fun _ => ⟨_, _, _, W_c_f A2'.2.1 A2'.2.2.1 he ht (by decide) (by decide) hp, fun z => absurd rfl z, fun _ => ⟨_, _, _, W_c_t A2'.2.1 A2'.2.2.1 he (by decide) (by decide) hl, fun _ => ⟨_, _, c4, _, _, _, c5, fun _ => ⟨fun _ => ⟨ix1, ?_⟩, fun z => absurd rfl z⟩, fun z => absurd z (by decide)⟩, fun z => absurd z (by decide)⟩⟩, fun z => absurd z (by decide)⟩, fun z => absurd l8 z⟩, g_r_readNoiseOf_0 ⟨fun _ => ⟨_, _, d1', _, _, _, d2', _, _, _, W_r_f A2.2.2.2.1 (by decide) (by decide) hp, fun z => absurd rfl z, fun _ => ⟨_, _, _, W_r_t A2.2.2.2.1 (by decide) (by decide) hl, fun _ => ⟨_, _, d4, _, _, _, d5, fun _ => ⟨fun _ => ⟨ix2, ?_⟩, fun z => absurd rfl z⟩, fun z => absurd h38 z⟩, fun z => absurd z (by decide)⟩⟩, fun z => absurd z n8⟩, fin _ (by omega)⟩
            · rw [cl, e95, en]; exact ⟨rfl, rfl, rfl⟩
            · rw [cr, m23, m19, en]; exact ⟨rfl, rfl, rfl⟩
        · subst er5
          have fin : LR t e a db (nI 0) mi mi5 mj mj5 mk mk5 := ⟨F5, G5, Or.inr ⟨rfl, f, _, D5⟩⟩
          have np := D5.2.2.1.np
          by_cases hp : isW t e (nxA t e (nxA t e a)) 13
          · exact ⟨nI 0, mi5, mj5, mk5, g_rd_takeNoise_0 hb ⟨_, L0, fun _ => ⟨_, _, c1, _, _, _, c2', fun _ => ⟨_, _, _, W_c_t A2'.2.1 A2'.2.2.1 he (by decide) (by decide) hp, fun _ => ⟨_, _, c4, _, _, _, c5, fun z => absurd rfl z, fun _ => ⟨rfl, rfl, rfl⟩⟩, fun z => absurd z (by decide)⟩, fun z => absurd z (by decide)⟩, fun z => absurd l8 z⟩, g_r_readNoiseOf_0 ⟨fun _ => ⟨_, _, d1', _, _, _, d2', _, _, _, W_r_t A2.2.2.2.1 (by decide) (by decide) hp, fun _ => ⟨_, _, d4, _, _, _, d5, fun z => absurd z np, fun _ => ⟨rfl, rfl, rfl⟩⟩, fun z => absurd z (by decide)⟩, fun z => absurd z n8⟩, fin⟩
          · have hl : isW t e (nxA t e (nxA t e a)) 14 := by
              rcases hw with h | h
              · exact absurd h hp
              · exact h
            exact ⟨nI 0, mi5, mj5, mk5, g_rd_takeNoise_0 hb ⟨_, L0, fun _ => ⟨_, _, c1, _, _, _, c2', fun _ => ⟨_, _, _, W_c_f A2'.2.1 A2'.2.2.1 he ht (by decide) (by decide) hp, fun z => absurd rfl z, fun _ => ⟨_, _, _, W_c_t A2'.2.1 A2'.2.2.1 he (by decide) (by decide) hl, fun _ => ⟨_, _, c4, _, _, _, c5, fun z => absurd rfl z, fun _ => ⟨rfl, rfl, rfl⟩⟩, fun z => absurd z (by decide)⟩⟩, fun z => absurd z (by decide)⟩, fun z => absurd l8 z⟩, g_r_readNoiseOf_0 ⟨fun _ => ⟨_, _, d1', _, _, _, d2', _, _, _, W_r_f A2.2.2.2.1 (by decide) (by decide) hp, fun z => absurd rfl z, fun _ => ⟨_, _, _, W_r_t A2.2.2.2.1 (by decide) (by decide) hl, fun _ => ⟨_, _, d4, _, _, _, d5, fun z => absurd z np, fun _ => ⟨rfl, rfl, rfl⟩⟩, fun z => absurd z (by decide)⟩⟩, fun z => absurd z n8⟩, fin⟩
      · have hp : ¬ isW t e (nxA t e (nxA t e a)) 13 := fun z => hw (Or.inl z)
        have hl : ¬ isW t e (nxA t e (nxA t e a)) 14 := fun z => hw (Or.inr z)
        have D := DR.mk0 (mj := mj2) (f := 1) (by decide) (by decide)
        have h38 := A2.2.2.2.2.2.1
        exact ⟨nI 0, _, u2 (u2 mj2 48 38 (nI 1)) 48 35 (nI 0), mk2, g_rd_takeNoise_0 hb ⟨_, L0, fun _ => ⟨_, _, c1, _, _, _, c2', fun _ => ⟨_, _, _, W_c_f A2'.2.1 A2'.2.2.1 he ht (by decide) (by decide) hp, fun z => absurd rfl z, fun _ => ⟨_, _, _, W_c_f A2'.2.1 A2'.2.2.1 he ht (by decide) (by decide) hl, fun z => absurd rfl z, fun _ => ⟨rfl, rfl, rfl⟩⟩⟩, fun z => absurd z (by decide)⟩, fun z => absurd l8 z⟩, g_r_readNoiseOf_0 ⟨fun _ => ⟨_, _, d1', _, _, _, d2', _, _, _, W_r_f A2.2.2.2.1 (by decide) (by decide) hp, fun z => absurd rfl z, fun _ => ⟨_, _, _, W_r_f A2.2.2.2.1 (by decide) (by decide) hl, fun z => absurd rfl z, fun _ => ⟨fun z => absurd h38 z, fun _ => ⟨_, _, D_next D, _, _, _, D_readWhole D _ _, fun z => absurd z D.np, fun _ => ⟨rfl, rfl, rfl⟩⟩⟩⟩⟩, fun z => absurd z n8⟩, F2.tr FSc.fl.l, G2.tr FSr.fl.l, Or.inr ⟨rfl, 1, _, DD.at A2' (by decide) (by decide)⟩⟩
    · subst er2
      have D := D2.2.2.1
      exact ⟨nI 0, mi2, mj2, mk2, g_rd_takeNoise_0 hb ⟨_, L0, fun _ => ⟨_, _, c1, _, _, _, c2', fun z => absurd rfl z, fun _ => ⟨rfl, rfl, rfl⟩⟩, fun z => absurd l8 z⟩, g_r_readNoiseOf_0 ⟨fun _ => ⟨_, _, d1', _, _, _, d2', _, _, _, D_isW D (by decide) (by decide), fun z => absurd rfl z, fun _ => ⟨_, _, _, D_isW D (by decide) (by decide), fun z => absurd rfl z, fun _ => ⟨fun _ => ⟨mj2, mk2, by rw [D.id]; exact D_next D, _, _, _, D_readWhole D _ _, fun z => absurd z D.np, fun _ => ⟨rfl, rfl, rfl⟩⟩, fun z => absurd z D.nz⟩⟩⟩, fun z => absurd z n8⟩, (f1.s.l).tr f2.l, (g1.s.l).tr g2.l, Or.inr ⟨rfl, f, _, D2⟩⟩
end
