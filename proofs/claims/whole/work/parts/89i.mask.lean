/-! ===== a mask ===== -/
section
variable {nb db nc dc : Nat} {by_ rs : RX} {c : Nat} {mi mj : MI} {ml mk : ML} {t : Nat → Nat} {e p a w f : Nat} {x y z : Int32} {γ : SG} {lit nsy : Nat}
theorem P_mask (hd : db = 5 ∨ db = 43) (hr : γ 0 0 = 1) (W : PW γ lit nsy) (P : PDc γ lit nsy db mi) (R : PDr γ lit nsy mj) {K B : Nat} (hK : γ 0 9 = (K : Int)) (hK12 : K < 12) (hB0 : 0 < B) (hB : B < 2 ^ (γ 0 5).toNat) :
    PW (u2 (u2 γ 4 K (B : Int)) 0 9 ((K + 1 : Nat) : Int)) lit nsy ∧ PDc (u2 (u2 γ 4 K (B : Int)) 0 9 ((K + 1 : Nat) : Int)) lit nsy db (u2 (u2 mi (db + 4) K (nI B)) db 4 (nI (K + 1))) ∧ PDr (u2 (u2 γ 4 K (B : Int)) 0 9 ((K + 1 : Nat) : Int)) lit nsy (u2 (u2 mj 53 K (nI B)) 48 17 (nI (K + 1))) := by
  obtain ⟨hW, w1, w2, w3, w4, w5, w6, w7⟩ := W
  have h31 := hW.nn
  have e0 : ∀ k, k ≠ 9 → (u2 (u2 γ 4 K (B : Int)) 0 9 ((K + 1 : Nat) : Int)) 0 k = γ 0 k := fun k hk => by rw [u2_ne2 _ _ (Or.inr hk), u2_o _ _ (by decide)]
  have e9 : (u2 (u2 γ 4 K (B : Int)) 0 9 ((K + 1 : Nat) : Int)) 0 9 = ((K + 1 : Nat) : Int) := u2_s _ _ _ _
  have er : ∀ b, b ≠ 0 → b ≠ 4 → (u2 (u2 γ 4 K (B : Int)) 0 9 ((K + 1 : Nat) : Int)) b = γ b := fun b h1 h2 => by rw [u2_o _ _ h1, u2_o _ _ h2]
  have e4 : ∀ k, (u2 (u2 γ 4 K (B : Int)) 0 9 ((K + 1 : Nat) : Int)) 4 k = if k = K then (B : Int) else γ 4 k := fun k => by
    rw [u2_o _ _ (by decide)]
    by_cases h : k = K
    · rw [h, u2_s, if_pos rfl]
    · rw [u2_ne2 _ _ (Or.inr h), if_neg h]
  have eo : opB (u2 (u2 γ 4 K (B : Int)) 0 9 ((K + 1 : Nat) : Int)) = opB γ := by unfold opB; rw [e0 5 (by decide), er 2 (by decide) (by decide)]
  have es : shB (u2 (u2 γ 4 K (B : Int)) 0 9 ((K + 1 : Nat) : Int)) = shB γ := by unfold shB; rw [e0 5 (by decide), er 2 (by decide) (by decide)]
  have et : stB (u2 (u2 γ 4 K (B : Int)) 0 9 ((K + 1 : Nat) : Int)) = stB γ := by unfold stB; rw [eo, es]
  have el : loB (u2 (u2 γ 4 K (B : Int)) 0 9 ((K + 1 : Nat) : Int)) = loB γ := by unfold loB; rw [e0 10 (by decide)]
  refine ⟨⟨?_, ?_, fun z => ?_, w3, w4, by rw [et]; exact w5, w6, by rw [el]; exact w7⟩, ?_, ?_⟩
  · obtain ⟨a1, a2, a3, a4, a5, a6, a7, a8, a9, a10, a11, a12, a13, a14⟩ := hW
    unfold WF
    rw [e0 0 (by decide), e0 5 (by decide), e0 10 (by decide), e0 11 (by decide), e0 12 (by decide), e0 15 (by decide), e0 6 (by decide), e0 7 (by decide), e0 8 (by decide), e0 4 (by decide), e0 1 (by decide), e9, er 1 (by decide) (by decide), er 2 (by decide) (by decide), er 3 (by decide) (by decide), er 8 (by decide) (by decide)]
    refine ⟨?_, a2, a3, a4, a5, a6, a7, a8, a9, a10, a11, a12, fun i hi => ?_, a14⟩
    · rcases a1 with z | ⟨z1, z2, z3, z4, z5, z6⟩
      · have := z.1; omega
      · exact Or.inr ⟨z1, z2, z3, z4, by omega, by omega⟩
    · rw [e4 i]
      by_cases h : i = K
      · rw [if_pos h, p2Z]; omega
      · rw [if_neg h]; exact a13 i (by omega)
  · rw [e0 1 (by decide), e0 2 (by decide), e0 4 (by decide), e0 11 (by decide), e0 12 (by decide), e0 13 (by decide), e0 14 (by decide), e0 15 (by decide)]; exact w1
  · rw [e0 0 (by decide), hr] at z; exact absurd z (by decide)
  · obtain ⟨⟨a1, a2, a3, a4, a5, a6, a7, a8, a9, a10, a11, a12⟩, b, c1, c2⟩ := P
    have g : ∀ k, k ≠ 4 → (u2 (u2 mi (db + 4) K (nI B)) db 4 (nI (K + 1))) db k = mi db k := fun k hk => by rw [u2_ne2 _ _ (Or.inr hk), u2_o _ _ (by omega)]
    have gc : ∀ b, b ≠ db → b ≠ db + 4 → (u2 (u2 mi (db + 4) K (nI B)) db 4 (nI (K + 1))) b = mi b := fun b h1 h2 => by rw [u2_o _ _ h1, u2_o _ _ h2]
    refine ⟨⟨?_, ?_, ?_, ?_, ?_, ?_, ?_, ?_, ?_, ?_, ?_, ?_⟩, fun k hk => ?_, ?_, ?_⟩
    · rw [g 0 (by decide), e0 5 (by decide)]; exact a1
    · rw [g 1 (by decide), e0 6 (by decide)]; exact a2
    · rw [g 2 (by decide), e0 7 (by decide)]; exact a3
    · rw [g 3 (by decide), e0 8 (by decide)]; exact a4
    · rw [u2_s, e9]; rfl
    · rw [g 5 (by decide), eo]; exact a6
    · rw [g 6 (by decide), es]; exact a7
    · rw [g 7 (by decide), e0 10 (by decide)]; exact a8
    · rw [gc (db + 1) (by omega) (by omega), e0 5 (by decide), e0 6 (by decide)]; exact a9
    · rw [gc (db + 2) (by omega) (by omega), e0 5 (by decide), er 1 (by decide) (by decide)]; exact a10
    · rw [gc (db + 3) (by omega) (by omega), e0 5 (by decide), er 3 (by decide) (by decide)]; exact a11
    · intro i hi
      rw [e9] at hi
      rw [e4 i, u2_o _ _ (show db + 4 ≠ db by omega)]
      by_cases h : i = K
      · rw [h, if_pos rfl, u2_s]; rfl
      · rw [if_neg h, u2_ne2 _ _ (Or.inr h)]; exact a12 i (by omega)
    · rw [gc (db + 2) (by omega) (by omega), gc (db + 3) (by omega) (by omega), er 1 (by decide) (by decide), er 3 (by decide) (by decide)]; exact b k hk
    · rw [gc 4 (by omega) (by omega)]; exact c1
    · rw [gc 4 (by omega) (by omega)]; exact c2
  · obtain ⟨a1, a2, a3, a4, a5, a6, a7, a8, a9, b1, b2, b3, b4⟩ := R
    have g : ∀ k, k ≠ 17 → (u2 (u2 mj 53 K (nI B)) 48 17 (nI (K + 1))) 48 k = mj 48 k := fun k hk => by rw [u2_ne2 _ _ (Or.inr hk), u2_o _ _ (by decide)]
    have gc : ∀ b, b ≠ 48 → b ≠ 53 → (u2 (u2 mj 53 K (nI B)) 48 17 (nI (K + 1))) b = mj b := fun b h1 h2 => by rw [u2_o _ _ h1, u2_o _ _ h2]
    refine ⟨?_, ?_, ?_, ?_, ?_, ?_, ?_, ?_, ?_, ?_, ?_, ?_, ?_⟩
    · rw [g 13 (by decide), e0 5 (by decide)]; exact a1
    · rw [g 14 (by decide), g 15 (by decide), g 16 (by decide), e0 0 (by decide), e0 6 (by decide), e0 7 (by decide), e0 8 (by decide)]; exact a2
    · rw [u2_s, e9]; rfl
    · rw [g 18 (by decide), et]; exact a4
    · rw [g 19 (by decide)]; exact a5
    · rw [g 20 (by decide), el]; exact a6
    · rw [g 21 (by decide)]; exact a7
    · rw [g 22 (by decide), et]; exact a8
    · rw [g 23 (by decide)]; exact a9
    · rw [gc 52 (by decide) (by decide), er 3 (by decide) (by decide)]; exact b1
    · intro i hi
      rw [e9] at hi
      rw [e4 i, u2_o _ _ (by decide)]
      by_cases h : i = K
      · rw [h, if_pos rfl, u2_s]; rfl
      · rw [if_neg h, u2_ne2 _ _ (Or.inr h)]; exact b2 i (by omega)
    · rw [gc 55 (by decide) (by decide), er 1 (by decide) (by decide), er 2 (by decide) (by decide)]; exact b3
    · rw [gc 55 (by decide) (by decide), e0 10 (by decide)]; exact b4
theorem or_pos {B n : Nat} : 0 < B ||| 2 ^ n := by
  have h : 2 ^ n ≤ B ||| 2 ^ n := Nat.right_le_or
  have := Nat.two_pow_pos n
  omega
theorem nI_n0 {B : Nat} (h : B < 2 ^ 31) (h0 : 0 < B) : ¬ nI B = 0 := by
  rw [show (0 : Int32) = nI 0 from rfl, nI_eq h (by decide)]; omega
theorem M_go (hb : nb = 43 ∧ db = 5 ∨ nb = 5 ∧ db = 43) (he : e ≤ 800) (ht : ∀ k, t k ≤ 255) (hr : γ 0 0 = 1) (W : PW γ lit nsy) {a0 K N : Nat} {mi0 mj0 : MI} {mk0 : ML} (hN3 : 3 ≤ N) (hN31 : N ≤ 31) (zN : zI (γ 0 5) = nI N) (tN : (γ 0 5).toNat = N) (hK : γ 0 9 = (K : Int)) (hK12 : K < 12) :
    ∀ fu a B (mi mj : MI) (mk : ML), N - pcN 32 B < fu → a0 < a → AT t e a mi mj mk → PDc γ lit nsy db mi → PDr γ lit nsy mj → B < 2 ^ N → (B = 0 ∨ tkK t e a = 3) → FLc db mi0 mi → FLr mj0 mj mk0 mk →
      ∃ r mi' mj' mk', Go m_rd_takeMask 26 [some (vR 12 0 4), some (vI (nI B)), some (vI (nI (pcN 32 B)))] [] (some (vI r)) c (MRc nb db (some (0, 800, 3)) rs) mi ml mi' ml ∧ Go m_r_readMaskOf 22 [some (vR 19 0 48), some (vI (nI B)), some (vI (nI 1))] [] none c (MRc nc dc (some (0, 800, 3)) rs) mj mk mj' mk' ∧ LR t e a0 db r mi0 mi' mj0 mj' mk0 mk' := by
  intro fu
  induction fu with
  | zero => intro a B mi mj mk hn; exact absurd hn (by omega)
  | succ fu ih =>
    intro a B mi mj mk hn ha A P R hB hc F G
    have hd : db = 5 ∨ db = 43 := by omega
    have pcB : ∀ X, X < 2 ^ N → pcN 32 X ≤ N := fun X hX => by have := pcN_lt N (32 - N) X hX; rw [show N + (32 - N) = 32 by omega] at this; exact this
    have p31N : 2 ^ N ≤ 2 ^ 31 := Nat.pow_le_pow_right (by decide) hN31
    have hpB := pcB B hB
    obtain ⟨r2, v2, mi2, mj2, mk2, c2, d2, f2, g2, Q2⟩ := J_new (nc := nc) (dc := dc) (c := c) (rs := rs) (ml := ml) (x := nI B) hb he ht (show 0 < N by omega) hN31 (show B < 2 ^ 31 by omega) A (P.1.1.trans zN) (R.1.trans zN) rfl
    have CH : ∀ (rv : Option AV) (m' : MI), (∃ (r1 : Int32) (mi1 : MI) (ml1 : ML), Ret m_rd_takeNew [(vR 12 0 4), (vI (nI B))] (some (vI r1)) c (MRc nb db (some (0, 800, 3)) rs) mi ml mi1 ml1 ∧ ((¬ r1 = 0 → (Go m_rd_takeMask 26 [some (vR 12 0 4), some (vI (nI B ||| ((nI 1) <<< ((mi1 4 9) &&& 31)))), some (vI (nI (pcN 32 B) + nI 1))] [] rv c (MRc nb db (some (0, 800, 3)) rs) mi1 ml1 m' ml)) ∧ (r1 = 0 → (Fin (some (vI (nI 0))) mi1 ml1 rv m' ml)))) → Go m_rd_takeMask 26 [some (vR 12 0 4), some (vI (nI B)), some (vI (nI (pcN 32 B)))] [] rv c (MRc nb db (some (0, 800, 3)) rs) mi ml m' ml := fun rv m' Y => by
      refine g_rd_takeMask_26 hb ⟨fun z => absurd z (by rw [nI_ltI (by decide) (by omega)]; omega), fun _ => ⟨fun _ => Y, fun z => ⟨fun z2 => ?_, fun _ => Y⟩⟩⟩
      rcases hc with h | h
      · exact absurd (by rw [h]; rfl) z
      · exact absurd (by rw [A.2.1.1, h]; rfl) z2
    rcases Q2 with ⟨er2, ae1, ⟨n, hnN, bn, ev2, e9⟩, A2⟩ | ⟨er2, f, D2⟩
    · subst er2 ev2
      have n2 := nxA_in (t := t) ae1
      have hB' : B ||| 2 ^ n < 2 ^ N := or_lt31 hB hnN
      have hpc := pcN_or 32 B n (by omega) bn
      have hpB' := pcB _ hB'
      have P2 := P.fr hd f2
      have R2 := R.fr g2
      have eo : nI B ||| (nI 1 <<< (mi2 4 9 &&& 31)) = nI (B ||| 2 ^ n) := or_n rfl e9 (by omega)
      have eo' : nI B ||| (nI 1 <<< (nI n &&& 31)) = nI (B ||| 2 ^ n) := or_n rfl rfl (by omega)
      have ep : nI (pcN 32 B) + nI 1 = nI (pcN 32 (B ||| 2 ^ n)) := by rw [hpc, nI_add]
      by_cases h3 : tkK t e (nxA t e a) = 3
      · obtain ⟨r, mi', mj', mk', k1, k2, k3⟩ := ih (nxA t e a) (B ||| 2 ^ n) mi2 mj2 mk2 (by omega) (by omega) A2 P2 R2 hB' (Or.inr h3) (F.tr f2.l) (G.tr g2.l)
        have e35 : mj2 48 35 = nI 3 := by rw [A2.2.2.2.1.1, h3]
        exact ⟨r, mi', mj', mk', CH _ _ ⟨_, _, _, c2, fun _ => by rw [eo, ep]; exact k1, fun z => absurd z (by decide)⟩, g_r_readMaskOf_22 ⟨fun z => absurd z (by decide), fun _ => ⟨_, _, _, d2, fun z => absurd e35 z, fun _ => by rw [eo']; exact k2⟩⟩, k3⟩
      · have n35 : ¬ mj2 48 35 = nI 3 := by rw [A2.2.2.2.1.1, nI_eq (by have := tkK_4 t e (nxA t e a); omega) (by decide)]; exact h3
        have h38 : mj2 48 38 ≤ 0 := by rw [A2.2.2.2.2.2.1]; decide
        have n0 := nI_n0 (show B ||| 2 ^ n < 2 ^ 31 by omega) or_pos
        have q4 : mi2 db 4 = nI K := by rw [P2.1.2.2.2.2.1, hK]; rfl
        have q17 : mj2 48 17 = nI K := by rw [R2.2.2.1, hK]; rfl
        obtain ⟨W', P', R'⟩ := P_mask hd hr W P2 R2 hK hK12 (or_pos (B := B) (n := n)) (by rw [tN]; exact hB')
        refine ⟨nI 1, u2 (u2 mi2 (db + 4) K (nI (B ||| 2 ^ n))) db 4 (nI (K + 1)), u2 (u2 mj2 53 K (nI (B ||| 2 ^ n))) 48 17 (nI (K + 1)), mk2, CH _ _ ⟨_, _, _, c2, fun _ => ?_, fun z => absurd z (by decide)⟩, g_r_readMaskOf_22 ⟨fun z => absurd z (by decide), fun _ => ⟨_, _, _, d2, fun _ => ?_, fun z => absurd z n35⟩⟩, ((F.tr f2.l).tr (FLc.d _ (by omega) hd)).tr (FLc.d _ (by omega) hd), ((G.tr g2.l).tr (FLr.d _ (by decide))).tr (FLr.k _ (by decide)), Or.inl ⟨rfl, _, _, _, nxA t e a, ?_, ?_, ?_, W', P', R'⟩⟩
        · rw [eo, ep]
          refine g_rd_takeMask_26 hb ⟨fun z => absurd z (by rw [nI_ltI (by decide) (by omega)]; omega), fun _ => ⟨fun z => absurd z n0, fun _ => ⟨fun _ => ⟨ixn q4 hK12 (by decide), ?_⟩, fun z => absurd z (A2.n3 h3)⟩⟩⟩
          rw [cln q4 (by omega), inc q4]; exact ⟨rfl, rfl, rfl⟩
        · rw [eo']
          refine g_r_readMaskOf_22 ⟨fun _ => ⟨fun _ => ⟨ixn q17 hK12 (by decide), ?_⟩, fun z => absurd h38 z⟩, fun z => absurd rfl z⟩
          rw [cln q17 (by omega), inc q17]; exact ⟨rfl, rfl, rfl⟩
        · omega
        · rw [u2_ne2 _ _ (Or.inr (by decide)), u2_o _ _ (by decide)]; exact hr
        · exact (((A2.co _ (by omega) (by omega)).co _ (by omega) (by omega)).ro _ (by omega)).ro _ (by omega)
    · subst er2
      have D := D2.2.2.1
      have n35 : ¬ mj2 48 35 = nI 3 := by rw [D.2.2.2]; decide
      exact ⟨nI 0, mi2, mj2, mk2, CH _ _ ⟨_, _, _, c2, fun z => absurd rfl z, fun _ => ⟨rfl, rfl, rfl⟩⟩, g_r_readMaskOf_22 ⟨fun z => absurd z (by decide), fun _ => ⟨_, _, _, d2, fun _ => g_r_readMaskOf_22 ⟨fun _ => ⟨fun z => absurd z D.np, fun _ => ⟨rfl, rfl, rfl⟩⟩, fun z => absurd rfl z⟩, fun z => absurd z n35⟩⟩, F.tr f2.l, G.tr g2.l, Or.inr ⟨rfl, f, _, D2⟩⟩
theorem L_mask (hb : nb = 43 ∧ db = 5 ∨ nb = 5 ∧ db = 43) (he : e ≤ 800) (ht : ∀ k, t k ≤ 255) (A : AT t e a mi mj mk) (hk : tkK t e a = 2) (hr : γ 0 0 = 1) (W : PW γ lit nsy) (P : PDc γ lit nsy db mi) (R : PDr γ lit nsy mj) :
    ∃ r mi' mj' mk', Ret m_rd_takeMask [vR 12 0 4] (some (vI r)) c (MRc nb db (some (0, 800, 3)) rs) mi ml mi' ml ∧ Ret m_r_readMaskOf [vR 19 0 48] none c (MRc nc dc (some (0, 800, 3)) rs) mj mk mj' mk' ∧ LR t e a db r mi mi' mj mj' mk mk' := by
  have hd : db = 5 ∨ db = 43 := by omega
  obtain ⟨N, eN, h3, h31, zN, tN⟩ := gN W.1 hr
  have hm := W.1.ms
  have hK : γ 0 9 = (((γ 0 9).toNat : Nat) : Int) := by omega
  have x4 : mi db 4 = nI (γ 0 9).toNat := by rw [P.1.2.2.2.2.1]; exact z_nat hm.1
  have x17 : mj 48 17 = nI (γ 0 9).toNat := by rw [R.2.2.1]; exact z_nat hm.1
  have nz := nN0 h3 h31 (R.1.trans zN)
  by_cases full : (γ 0 9).toNat = 12
  · have D := DR.mk0 (mj := mj) (f := 4) (by decide) (by decide)
    have n35 : ¬ (u2 (u2 mj 48 38 (nI 4)) 48 35 (nI 0)) 48 35 = nI 3 := by rw [D.2.2.2]; decide
    refine ⟨nI 0, _, u2 (u2 mj 48 38 (nI 4)) 48 35 (nI 0), mk, g_rd_takeMask_0 hb ⟨fun z => absurd z (by rw [x4, full]; decide), fun _ => ⟨rfl, rfl, rfl⟩⟩, ?_, FSc.fl.l, FSr.fl.l, Or.inr ⟨rfl, 4, a, DD.at A (by decide) (by decide)⟩⟩
    exact g_r_readMaskOf_0 ⟨fun z => absurd (by rw [x17, full]) z, fun _ => ⟨_, _, B_full nz A.2.2.2.2.2.1, g_r_readMaskOf_22 ⟨fun z => absurd z (by decide), fun _ => ⟨_, _, _, D_readNew D _, fun _ => g_r_readMaskOf_22 ⟨fun _ => ⟨fun z => absurd z D.np, fun _ => ⟨rfl, rfl, rfl⟩⟩, fun z => absurd rfl z⟩, fun z => absurd z n35⟩⟩⟩⟩
  · obtain ⟨mi1, mj1, mk1, c1, d1, A1, f1, g1⟩ := J_next (nc := nc) (dc := dc) (nb := nb) (db := db) (rs := rs) (c := c) (ml := ml) he ht A (by rw [hk]; decide)
    have n1 := nxA_in (t := t) (tk_word hk).1
    obtain ⟨r, mi', mj', mk', k1, k2, k3⟩ := M_go (nc := nc) (dc := dc) (c := c) (rs := rs) (ml := ml) (a0 := a) (mi0 := mi) (mj0 := mj) (mk0 := mk) hb he ht hr W h3 h31 zN tN hK (by omega) (N + 1) (nxA t e a) 0 mi1 mj1 mk1 (by omega) n1.1 A1 (P.fr hd f1.s) (R.fr g1.s) (Nat.two_pow_pos N) (Or.inl rfl) f1.s.l g1.s.l
    rw [show nI (pcN 32 0) = nI 0 from by rw [pcN_0]] at k1
    exact ⟨r, mi', mj', mk', g_rd_takeMask_0 hb ⟨fun _ => ⟨_, _, c1, k1⟩, fun z => absurd (by rw [x4, nI_ltI (by omega) (by decide)]; omega) z⟩, g_r_readMaskOf_0 ⟨fun _ => ⟨_, _, B_ok nz d1, k2⟩, fun z => absurd (by rw [x17, nI_eq (by omega) (by decide)] at z; exact z) full⟩, k3⟩
end
