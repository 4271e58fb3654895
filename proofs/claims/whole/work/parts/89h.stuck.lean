/-! ===== a shutter is stuck ===== -/
theorem bits_or {f g : Nat → Bool} {N n : Nat} (hn : n < N) (hg : g n = true) (h : ∀ k, k ≠ n → g k = f k) : bitsOf g N = bitsOf f N ||| 2 ^ n := by
  apply Nat.eq_of_testBit_eq
  intro k
  rw [tb_bits, Nat.testBit_or, tb_bits, Nat.testBit_two_pow]
  by_cases e : k = n
  · rw [e, hg]; simp [hn]
  · rw [h k e]
    have : ¬ n = k := fun z => e z.symm
    simp [this]
theorem st_0 {γ : SG} (hW : WF γ) {n : Nat} (hn : n < (γ 0 5).toNat) (h : bt (stB γ) n = 0) : γ 2 n = 0 := by
  have h1 : (stB γ).testBit n = false := by
    rw [Nat.testBit_eq_decide_div_mod_eq]
    unfold bt at h
    rw [h]; rfl
  unfold stB at h1
  rw [Nat.testBit_or] at h1
  have h2 : (opB γ).testBit n = (decide (n < (γ 0 5).toNat) && (γ 2 n == 1)) := tb_bits _ _ _
  have h3 : (shB γ).testBit n = (decide (n < (γ 0 5).toNat) && (γ 2 n == 2)) := tb_bits _ _ _
  rw [h2, h3] at h1
  rcases hW.shut n with z | z | z
  · exact z
  · rw [z] at h1; simp [hn] at h1
  · rw [z] at h1; simp [hn] at h1
section
variable {nb db nc dc : Nat} {by_ rs : RX} {c : Nat} {mi mj : MI} {ml mk : ML} {t : Nat → Nat} {e p a w f : Nat} {x y z : Int32} {γ : SG} {lit nsy : Nat}
theorem st_up {n : Nat} (hn : n < (γ 0 5).toNat) (h0 : γ 2 n = 0) {s : Int} (hs : s = 1 ∨ s = 2) : stB (u2 γ 2 n s) = stB γ ||| 2 ^ n ∧ (s = 1 → opB (u2 γ 2 n s) = opB γ ||| 2 ^ n ∧ shB (u2 γ 2 n s) = shB γ) ∧ (s = 2 → shB (u2 γ 2 n s) = shB γ ||| 2 ^ n ∧ opB (u2 γ 2 n s) = opB γ) := by
  have e0 : (u2 γ 2 n s) 0 = γ 0 := u2_o _ _ (by decide)
  have en : (u2 γ 2 n s) 2 n = s := u2_s _ _ _ _
  have ek : ∀ k, k ≠ n → (u2 γ 2 n s) 2 k = γ 2 k := fun k hk => u2_ne2 _ _ (Or.inr hk)
  have A : s = 1 → opB (u2 γ 2 n s) = opB γ ||| 2 ^ n ∧ shB (u2 γ 2 n s) = shB γ := fun h => by
    refine ⟨?_, ?_⟩
    · unfold opB; rw [e0]
      refine bits_or (f := fun j => γ 2 j == 1) hn ?_ (fun k hk => ?_)
      · show ((u2 γ 2 n s) 2 n == 1) = true
        rw [en, h]; rfl
      · show ((u2 γ 2 n s) 2 k == 1) = (γ 2 k == 1)
        rw [ek k hk]
    · unfold shB; rw [e0]
      congr 1
      funext k
      by_cases hk : k = n
      · rw [hk, en, h, h0]; rfl
      · rw [ek k hk]
  have B : s = 2 → shB (u2 γ 2 n s) = shB γ ||| 2 ^ n ∧ opB (u2 γ 2 n s) = opB γ := fun h => by
    refine ⟨?_, ?_⟩
    · unfold shB; rw [e0]
      refine bits_or (f := fun j => γ 2 j == 2) hn ?_ (fun k hk => ?_)
      · show ((u2 γ 2 n s) 2 n == 2) = true
        rw [en, h]; rfl
      · show ((u2 γ 2 n s) 2 k == 2) = (γ 2 k == 2)
        rw [ek k hk]
    · unfold opB; rw [e0]
      congr 1
      funext k
      by_cases hk : k = n
      · rw [hk, en, h, h0]; rfl
      · rw [ek k hk]
  refine ⟨?_, A, B⟩
  rcases hs with h | h
  · unfold stB; rw [(A h).1, (A h).2, Nat.or_assoc, Nat.or_comm (2 ^ n), ← Nat.or_assoc]
  · unfold stB; rw [(B h).1, (B h).2, ← Nat.or_assoc]
theorem P_stuck (hd : db = 5 ∨ db = 43) (hr : γ 0 0 = 1) (W : PW γ lit nsy) (P : PDc γ lit nsy db mi) (R : PDr γ lit nsy mj) {m3 m4 : MI} {n : Nat} {s : Int} (hn : n < (γ 0 5).toNat) (hs : s = 1 ∨ s = 2) (bn : bt (stB γ) n = 0) (h3 : pcN 32 (stB γ) < 3) (f0 : ∀ k, k ≠ 5 → k ≠ 6 → m3 db k = mi db k) (f5 : m3 db 5 = nI (opB (u2 γ 2 n s))) (f6 : m3 db 6 = nI (shB (u2 γ 2 n s))) (f1 : ∀ b, b ≠ 4 → b ≠ db → m3 b = mi b) (h10 : m3 4 10 = mi 4 10) (h11 : m3 4 11 = mi 4 11) (f2 : ∀ b, b ≠ 48 → m4 b = mj b) (f3 : ∀ k, k < 34 → m4 48 k = mj 48 k) :
    PW (u2 γ 2 n s) lit nsy ∧ PDc (u2 γ 2 n s) lit nsy db m3 ∧ PDr (u2 γ 2 n s) lit nsy (u2 (u2 (u2 m4 48 22 (nI (stB γ ||| 2 ^ n))) 55 (31 + n) (zI s)) 48 18 (nI (pcN 32 (stB γ) + 1))) := by
  obtain ⟨hW, w1, w2, w3, w4, w5, w6, w7⟩ := W
  have h31 := hW.nn
  have e0 : (u2 γ 2 n s) 0 = γ 0 := u2_o _ _ (by decide)
  have e1 : (u2 γ 2 n s) 1 = γ 1 := u2_o _ _ (by decide)
  have e3 : (u2 γ 2 n s) 3 = γ 3 := u2_o _ _ (by decide)
  have e4 : (u2 γ 2 n s) 4 = γ 4 := u2_o _ _ (by decide)
  have e8 : (u2 γ 2 n s) 8 = γ 8 := u2_o _ _ (by decide)
  have e2 : ∀ k, (u2 γ 2 n s) 2 k = if k = n then s else γ 2 k := fun k => by
    by_cases h : k = n
    · rw [h, u2_s, if_pos rfl]
    · rw [u2_ne2 _ _ (Or.inr h), if_neg h]
  have et := (st_up hn (st_0 hW hn bn) hs).1
  have el : loB (u2 γ 2 n s) = loB γ := by unfold loB; rw [e0]
  have hpc := pcN_or 32 (stB γ) n (by omega) bn
  refine ⟨⟨?_, by rw [e0]; exact w1, fun z => ?_, w3, w4, by rw [et, hpc]; omega, w6, by rw [el]; exact w7⟩, ?_, ?_⟩
  · obtain ⟨a1, a2, a3, a4, a5, a6, a7, a8, a9, a10, a11, a12, a13, a14⟩ := hW
    unfold WF
    rw [e0, e1, e3, e4, e8]
    refine ⟨a1, a2, a3, a4, a5, a6, a7, a8, a9, a10, fun i => ?_, a12, a13, a14⟩
    rw [e2 i]
    by_cases h : i = n
    · rw [if_pos h]; exact Or.inr hs
    · rw [if_neg h]; exact a11 i
  · rw [e0, hr] at z; exact absurd z (by decide)
  · obtain ⟨⟨a1, a2, a3, a4, a5, a6, a7, a8, a9, a10, a11, a12⟩, b, c1, c2⟩ := P
    refine ⟨⟨?_, ?_, ?_, ?_, ?_, f5, f6, ?_, ?_, ?_, ?_, ?_⟩, fun k hk => ?_, by rw [h10]; exact c1, by rw [h11]; exact c2⟩
    · rw [f0 0 (by decide) (by decide), e0]; exact a1
    · rw [f0 1 (by decide) (by decide), e0]; exact a2
    · rw [f0 2 (by decide) (by decide), e0]; exact a3
    · rw [f0 3 (by decide) (by decide), e0]; exact a4
    · rw [f0 4 (by decide) (by decide), e0]; exact a5
    · rw [f0 7 (by decide) (by decide), e0]; exact a8
    · rw [f1 (db + 1) (by omega) (by omega), e0]; exact a9
    · rw [f1 (db + 2) (by omega) (by omega), e0, e1]; exact a10
    · rw [f1 (db + 3) (by omega) (by omega), e0, e3]; exact a11
    · rw [f1 (db + 4) (by omega) (by omega), e0, e4]; exact a12
    · rw [f1 (db + 2) (by omega) (by omega), f1 (db + 3) (by omega) (by omega), e1, e3]; exact b k hk
  · obtain ⟨a1, a2, a3, a4, a5, a6, a7, a8, a9, b1, b2, b3, b4⟩ := R
    have g : ∀ k, k < 34 → k ≠ 22 → k ≠ 18 → (u2 (u2 (u2 m4 48 22 (nI (stB γ ||| 2 ^ n))) 55 (31 + n) (zI s)) 48 18 (nI (pcN 32 (stB γ) + 1))) 48 k = mj 48 k := fun k hk h1 h2 => by rw [u2_ne2 _ _ (Or.inr h2), u2_ne2 _ _ (Or.inl (by decide)), u2_ne2 _ _ (Or.inr h1), f3 k hk]
    have gc : ∀ b, b ≠ 48 → b ≠ 55 → (u2 (u2 (u2 m4 48 22 (nI (stB γ ||| 2 ^ n))) 55 (31 + n) (zI s)) 48 18 (nI (pcN 32 (stB γ) + 1))) b = mj b := fun b h1 h2 => by rw [u2_o _ _ h1, u2_o _ _ h2, u2_o _ _ h1, f2 b h1]
    have g5 : ∀ k, k ≠ 31 + n → (u2 (u2 (u2 m4 48 22 (nI (stB γ ||| 2 ^ n))) 55 (31 + n) (zI s)) 48 18 (nI (pcN 32 (stB γ) + 1))) 55 k = mj 55 k := fun k hk => by rw [u2_o _ _ (by decide), u2_ne2 _ _ (Or.inr hk), u2_o _ _ (by decide), f2 55 (by decide)]
    refine ⟨?_, ?_, ?_, ?_, ?_, ?_, ?_, ?_, ?_, ?_, ?_, ?_, ?_⟩
    · rw [g 13 (by decide) (by decide) (by decide), e0]; exact a1
    · rw [g 14 (by decide) (by decide) (by decide), g 15 (by decide) (by decide) (by decide), g 16 (by decide) (by decide) (by decide), e0]; exact a2
    · rw [g 17 (by decide) (by decide) (by decide), e0]; exact a3
    · rw [u2_s, et, hpc]
    · rw [g 19 (by decide) (by decide) (by decide)]; exact a5
    · rw [g 20 (by decide) (by decide) (by decide), el]; exact a6
    · rw [g 21 (by decide) (by decide) (by decide)]; exact a7
    · rw [u2_ne2 _ _ (Or.inr (by decide)), u2_ne2 _ _ (Or.inl (by decide)), u2_s, et]
    · rw [g 23 (by decide) (by decide) (by decide)]; exact a9
    · rw [gc 52 (by decide) (by decide), e3]; exact b1
    · rw [gc 53 (by decide) (by decide), e0, e4]; exact b2
    · intro k hk
      refine ⟨by rw [g5 k (by omega), e1]; exact (b3 k hk).1, ?_⟩
      rw [e2 k]
      by_cases h : k = n
      · rw [h, if_pos rfl, u2_o _ _ (by decide), u2_s]
      · rw [if_neg h, g5 _ (by omega)]; exact (b3 k hk).2
    · rw [g5 62 (by omega), e0]; exact b4
theorem L_stuck (hb : nb = 43 ∧ db = 5 ∨ nb = 5 ∧ db = 43) (he : e ≤ 800) (ht : ∀ k, t k ≤ 255) (A : AT t e a mi mj mk) (hk : tkK t e a = 2) (hr : γ 0 0 = 1) (W : PW γ lit nsy) (P : PDc γ lit nsy db mi) (R : PDr γ lit nsy mj) :
    ∃ r mi' mj' mk', Ret m_rd_takeStuck [vR 12 0 4] (some (vI r)) c (MRc nb db (some (0, 800, 3)) rs) mi ml mi' ml ∧ Ret m_r_readStuckOne [vR 19 0 48] none c (MRc nc dc (some (0, 800, 3)) rs) mj mk mj' mk' ∧ LR t e a db r mi mi' mj mj' mk mk' := by
  have hd : db = 5 ∨ db = 43 := by omega
  obtain ⟨N, eN, h3, h31, zN, tN⟩ := gN W.1 hr
  have hW := W.1
  have o31 := op_lt hW
  have s31 := sh_lt hW
  have st31 : stB γ < 2 ^ 31 := Nat.or_lt_two_pow o31 s31
  have w5 : pcN 32 (stB γ) ≤ 3 := W.2.2.2.2.2.1
  have x56 : mi db 5 ||| mi db 6 = nI (stB γ) := by rw [P.1.2.2.2.2.2.1, P.1.2.2.2.2.2.2.1, nI_or]; rfl
  have L0 := R_bitCount (c := c) (mi := mi) (ml := ml) (mr := MRc nb db (some (0, 800, 3)) rs) (show stB γ < 2 ^ 32 by omega) x56
  have x18 : mj 48 18 = nI (pcN 32 (stB γ)) := R.2.2.2.1
  have nz := nN0 h3 h31 (R.1.trans zN)
  by_cases full : pcN 32 (stB γ) = 3
  · rw [full] at L0 x18
    have D := DR.mk0 (mj := mj) (f := 4) (by decide) (by decide)
    refine ⟨nI 0, _, u2 (u2 mj 48 38 (nI 4)) 48 35 (nI 0), mk, g_rd_takeStuck_0 hb ⟨_, L0, fun z => absurd z (by decide), fun _ => ⟨rfl, rfl, rfl⟩⟩, ?_, FSc.fl.l, FSr.fl.l, Or.inr ⟨rfl, 4, a, DD.at A (by decide) (by decide)⟩⟩
    exact g_r_readStuckOne_0 ⟨fun z => absurd x18 z, fun _ => ⟨_, _, B_full nz A.2.2.2.2.2.1, _, _, _, D_readNew D _, _, _, _, D_isW D (by decide) (by decide), fun z => absurd rfl z, fun _ => ⟨_, _, _, D_isW D (by decide) (by decide), fun z => absurd rfl z, fun _ => ⟨fun _ => ⟨u2 (u2 mj 48 38 (nI 4)) 48 35 (nI 0), mk, by rw [D.id]; exact D_next D, fun z => absurd z D.np, fun _ => ⟨rfl, rfl, rfl⟩⟩, fun z => absurd z D.nz⟩⟩⟩⟩
  · have l3 : nI (pcN 32 (stB γ)) < nI 3 := (nI_ltI (by omega) (by decide)).mpr (by omega)
    have n3 : ¬ mj 48 18 = nI 3 := by rw [x18, nI_eq (by omega) (by decide)]; exact full
    obtain ⟨mi1, mj1, mk1, c1, d1, A1, f1, g1⟩ := J_next (nc := nc) (dc := dc) (nb := nb) (db := db) (rs := rs) (c := c) (ml := ml) he ht A (by rw [hk]; decide)
    have P1 := P.fr hd f1.s
    have R1 := R.fr g1.s
    have ae := (tk_word hk).1
    have n1 := nxA_in (t := t) ae
    have x22 : mj1 48 22 = nI (stB γ) := R1.2.2.2.2.2.2.2.1
    have d1' := B_ok nz d1
    obtain ⟨r2, v2, mi2, mj2, mk2, c2, d2, f2, g2, Q2⟩ := J_new (nc := nc) (dc := dc) (c := c) (rs := rs) (ml := ml) (x := nI (stB γ)) hb he ht (show 0 < N by omega) h31 st31 A1 (P1.1.1.trans zN) (R1.1.trans zN) rfl
    have c2' : Ret m_rd_takeNew [vR 12 0 4, vI (mi db 5 ||| mi db 6)] (some (vI r2)) c (MRc nb db (some (0, 800, 3)) rs) mi1 ml mi2 ml := by rw [x56]; exact c2
    have d2' : Ret m_r_readNew [vR 19 0 48, vI (mj1 48 22)] (some (vI v2)) c (MRc nc dc (some (0, 800, 3)) rs) mj1 mk1 mj2 mk2 := by rw [x22]; exact d2
    rcases Q2 with ⟨er2, ae1, ⟨n, hn, bn, ev2, e9⟩, A2⟩ | ⟨er2, f, D2⟩
    · subst er2 ev2
      have n2 := nxA_in (t := t) ae1
      have P2 := P1.fr hd f2
      have F2 : FLc db mi mi2 := (f1.s.l).tr f2.l
      have G2 : FLr mj mj2 mk mk2 := (g1.s.l).tr g2.l
      have hnN : n < (γ 0 5).toNat := by omega
      have h0 := st_0 hW hnN bn
      have eX : mi2 db 5 &&& (nI 1 <<< (mi2 4 9 &&& 31) ^^^ -(nI 1)) = nI (opB γ) := bits_off (f := fun j => γ 2 j == 1) (g := fun j => γ 2 j == 1) (show (γ 0 5).toNat ≤ 31 by omega) hnN (by show (γ 2 n == 1) = false; rw [h0]; rfl) (fun _ _ => rfl) P2.1.2.2.2.2.2.1 e9
      have eY : mi2 db 6 &&& (nI 1 <<< (mi2 4 9 &&& 31) ^^^ -(nI 1)) = nI (shB γ) := bits_off (f := fun j => γ 2 j == 2) (g := fun j => γ 2 j == 2) (show (γ 0 5).toNat ≤ 31 by omega) hnN (by show (γ 2 n == 2) = false; rw [h0]; rfl) (fun _ _ => rfl) P2.1.2.2.2.2.2.2.1 e9
      have eZ5 : nI (opB γ) ||| (nI 1 <<< (mi2 4 9 &&& 31)) = nI (opB γ ||| 2 ^ n) := or_n rfl e9 (by omega)
      have eZ6 : nI (shB γ) ||| (nI 1 <<< (mi2 4 9 &&& 31)) = nI (shB γ ||| 2 ^ n) := or_n rfl e9 (by omega)
      have cr : (nI 31 + nI n).toNatClampNeg = 31 + n := by rw [nI_add]; exact nI_clamp (by omega)
      have ix2 : vp_in (nI 31 + nI n) 63 := by rw [nI_add]; exact vp_in_nI (by omega) (by decide)
      by_cases hw : isW t e (nxA t e (nxA t e a)) 11 ∨ isW t e (nxA t e (nxA t e a)) 12
      · have k2 : tkK t e (nxA t e (nxA t e a)) = 2 := by rcases hw with h | h <;> exact h.1
        have ae2 := (tk_word k2).1
        have n4 := nxA_in (t := t) ae2
        have fin : ∀ (s : Int) (q : Nat) (zv : Int32), (s = 1 ∧ q = 5 ∧ zv = nI (opB γ ||| 2 ^ n)) ∨ (s = 2 ∧ q = 6 ∧ zv = nI (shB γ ||| 2 ^ n)) → ∃ mi4 mj4 mk4, Ret m_rd_next [vR 12 0 4] none c (MRc nb db (some (0, 800, 3)) rs) (u2 (u2 (u2 mi2 db 5 (nI (opB γ))) db 6 (nI (shB γ))) db q zv) ml mi4 ml ∧ Ret m_r_next [vR 19 0 48] none c (MRc nc dc (some (0, 800, 3)) rs) mj2 mk2 mj4 mk4 ∧ mj4 48 38 ≤ 0 ∧ mj4 48 22 ||| (nI 1 <<< (nI n &&& 31)) = nI (stB γ ||| 2 ^ n) ∧ mj4 48 18 + nI 1 = nI (pcN 32 (stB γ) + 1) ∧ LR t e a db (nI 1) mi mi4 mj (u2 (u2 (u2 mj4 48 22 (nI (stB γ ||| 2 ^ n))) 55 (31 + n) (zI s)) 48 18 (nI (pcN 32 (stB γ) + 1))) mk mk4 := by
          intro s q zv hq
          have hs : s = 1 ∨ s = 2 := by rcases hq with h | h; exact Or.inl h.1; exact Or.inr h.1
          have hq56 : q = 5 ∨ q = 6 := by rcases hq with h | h; exact Or.inl h.2.1; exact Or.inr h.2.1
          have A2' := ((A2.co (j := db) (k := 5) (nI (opB γ)) (by omega) (by omega)).co (j := db) (k := 6) (nI (shB γ)) (by omega) (by omega)).co (j := db) (k := q) zv (by omega) (by omega)
          obtain ⟨mi4, mj4, mk4, c4, d4, A4, f4, g4⟩ := J_next (nc := nc) (dc := dc) (nb := nb) (db := db) (rs := rs) (c := c) (ml := ml) he ht A2' (by rw [k2]; decide)
          obtain ⟨-, up1, up2⟩ := st_up hnN h0 hs
          have v5 : mi4 db 5 = nI (opB (u2 γ 2 n s)) := by
            rw [f4.1 db (by omega)]
            rcases hq with ⟨h1, h2, h3⟩ | ⟨h1, h2, h3⟩
            · rw [h2, u2_s, h3, (up1 h1).1]
            · rw [h2, u2_ne2 _ _ (Or.inr (by decide)), u2_ne2 _ _ (Or.inr (by decide)), u2_s, (up2 h1).2]
          have v6 : mi4 db 6 = nI (shB (u2 γ 2 n s)) := by
            rw [f4.1 db (by omega)]
            rcases hq with ⟨h1, h2, h3⟩ | ⟨h1, h2, h3⟩
            · rw [h2, u2_ne2 _ _ (Or.inr (by decide)), u2_s, (up1 h1).2]
            · rw [h2, u2_s, h3, (up2 h1).1]
          have k4 : ∀ j, (u2 (u2 (u2 mi2 db 5 (nI (opB γ))) db 6 (nI (shB γ))) db q zv) 4 j = mi2 4 j := fun j => by rw [u2_ne2 _ _ (Or.inl (by omega)), u2_ne2 _ _ (Or.inl (by omega)), u2_ne2 _ _ (Or.inl (by omega))]
          obtain ⟨W', P', R'⟩ := P_stuck (m3 := mi4) (m4 := mj4) (s := s) hd hr W P R hnN hs bn (by omega) (fun j h5 h6 => by rw [f4.1 db (by omega), u2_ne2 _ _ (Or.inr (by omega)), u2_ne2 _ _ (Or.inr h6), u2_ne2 _ _ (Or.inr h5), f2.1 db (by omega), f1.1 db (by omega)]) v5 v6 (fun b hb4 hbd => by rw [f4.1 b hb4, u2_o _ _ hbd, u2_o _ _ hbd, u2_o _ _ hbd, f2.1 b hb4, f1.1 b hb4]) (by rw [f4.2 10 (by omega), k4, f2.2 10 (by omega), f1.2 10 (by omega)]) (by rw [f4.2 11 (by omega), k4, f2.2 11 (by omega), f1.2 11 (by omega)]) (fun b hb4 => by rw [g4.1 b hb4, g2.1 b hb4, g1.1 b hb4]) (fun k hk => by rw [g4.2.1 k (by omega), g2.2.1 k (by omega), g1.2.1 k (by omega)])
          refine ⟨mi4, mj4, mk4, c4, d4, by rw [A4.2.2.2.2.2.1]; decide, or_n (by rw [g4.2.1 22 (by omega), g2.2.1 22 (by omega)]; exact x22) rfl (by omega), inc (by rw [g4.2.1 18 (by omega), g2.2.1 18 (by omega), g1.2.1 18 (by omega)]; exact x18), ((((F2.tr (FLc.d _ (by omega) hd)).tr (FLc.d _ (by omega) hd)).tr (FLc.d _ (by omega) hd)).tr f4.s.l), (((G2.tr g4.s.l).tr (FLr.k _ (by decide))).tr (FLr.d _ (by decide))).tr (FLr.k _ (by decide)), Or.inl ⟨rfl, _, _, _, nxA t e (nxA t e (nxA t e a)), ?_, ?_, ?_, W', P', R'⟩⟩
          · omega
          · rw [u2_o _ _ (by decide)]; exact hr
          · exact ((A4.ro _ (by omega)).ro _ (by omega)).ro _ (by omega)
        by_cases hp : isW t e (nxA t e (nxA t e a)) 11
        · obtain ⟨mi4, mj4, mk4, c4, d4, h38, m22, m18, L⟩ := fin 1 5 (nI (opB γ ||| 2 ^ n)) (Or.inl ⟨rfl, rfl, rfl⟩)
          refine ⟨nI 1, mi4, _, mk4, g_rd_takeStuck_0 hb ⟨_, L0, fun _ => ⟨_, _, c1, _, _, _, c2', fun _ => ⟨_, _, _, W_c_t A2.2.1 A2.2.2.1 he (by decide) (by decide) hp, fun _ => ⟨fun z => absurd z (by decide), fun _ => ⟨mi4, ml, by rw [eX, eY, eZ5]; exact c4, rfl, rfl, rfl⟩⟩, fun z => absurd z (by decide)⟩, fun z => absurd z (by decide)⟩, fun z => absurd l3 z⟩, g_r_readStuckOne_0 ⟨fun _ => ⟨_, _, d1', _, _, _, d2', _, _, _, W_r_t A2.2.2.2.1 (by decide) (by decide) hp, fun _ => ⟨_, _, d4, fun _ => ⟨fun z => absurd z (by decide), fun _ => ⟨ix2, ?_⟩⟩, fun z => absurd h38 z⟩, fun z => absurd z (by decide)⟩, fun z => absurd z n3⟩, L⟩
          rw [cr, m22, m18]; exact ⟨rfl, rfl, rfl⟩
        · have hl : isW t e (nxA t e (nxA t e a)) 12 := by
            rcases hw with h | h
            · exact absurd h hp
            · exact h
          obtain ⟨mi4, mj4, mk4, c4, d4, h38, m22, m18, L⟩ := fin 2 6 (nI (shB γ ||| 2 ^ n)) (Or.inr ⟨rfl, rfl, rfl⟩)
          refine ⟨nI 1, mi4, _, mk4, g_rd_takeStuck_0 hb ⟨_, L0, fun _ => ⟨_, _, c1, _, _, _, c2', fun _ => ⟨_, _, _, W_c_f A2.2.1 A2.2.2.1 he ht (by decide) (by decide) hp, fun z => absurd rfl z, fun _ => ⟨_, _, _, W_c_t A2.2.1 A2.2.2.1 he (by decide) (by decide) hl, fun _ => ⟨fun _ => ⟨mi4, ml, by rw [eX, eY, eZ6]; exact c4, rfl, rfl, rfl⟩, fun z => absurd rfl z⟩, fun z => absurd z (by decide)⟩⟩, fun z => absurd z (by decide)⟩, fun z => absurd l3 z⟩, g_r_readStuckOne_0 ⟨fun _ => ⟨_, _, d1', _, _, _, d2', _, _, _, W_r_f A2.2.2.2.1 (by decide) (by decide) hp, fun z => absurd rfl z, fun _ => ⟨_, _, _, W_r_t A2.2.2.2.1 (by decide) (by decide) hl, fun _ => ⟨_, _, d4, fun _ => ⟨fun _ => ⟨ix2, ?_⟩, fun z => absurd rfl z⟩, fun z => absurd h38 z⟩, fun z => absurd z (by decide)⟩⟩, fun z => absurd z n3⟩, L⟩
          rw [cr, m22, m18]; exact ⟨rfl, rfl, rfl⟩
      · have hp : ¬ isW t e (nxA t e (nxA t e a)) 11 := fun z => hw (Or.inl z)
        have hl : ¬ isW t e (nxA t e (nxA t e a)) 12 := fun z => hw (Or.inr z)
        have D := DR.mk0 (mj := mj2) (f := 1) (by decide) (by decide)
        have h38 := A2.2.2.2.2.2.1
        exact ⟨nI 0, _, u2 (u2 mj2 48 38 (nI 1)) 48 35 (nI 0), mk2, g_rd_takeStuck_0 hb ⟨_, L0, fun _ => ⟨_, _, c1, _, _, _, c2', fun _ => ⟨_, _, _, W_c_f A2.2.1 A2.2.2.1 he ht (by decide) (by decide) hp, fun z => absurd rfl z, fun _ => ⟨_, _, _, W_c_f A2.2.1 A2.2.2.1 he ht (by decide) (by decide) hl, fun z => absurd rfl z, fun _ => ⟨rfl, rfl, rfl⟩⟩⟩, fun z => absurd z (by decide)⟩, fun z => absurd l3 z⟩, g_r_readStuckOne_0 ⟨fun _ => ⟨_, _, d1', _, _, _, d2', _, _, _, W_r_f A2.2.2.2.1 (by decide) (by decide) hp, fun z => absurd rfl z, fun _ => ⟨_, _, _, W_r_f A2.2.2.2.1 (by decide) (by decide) hl, fun z => absurd rfl z, fun _ => ⟨fun z => absurd h38 z, fun _ => ⟨_, _, D_next D, fun z => absurd z D.np, fun _ => ⟨rfl, rfl, rfl⟩⟩⟩⟩⟩, fun z => absurd z n3⟩, F2.tr FSc.fl.l, G2.tr FSr.fl.l, Or.inr ⟨rfl, 1, _, DD.at A2 (by decide) (by decide)⟩⟩
    · subst er2
      have D := D2.2.2.1
      exact ⟨nI 0, mi2, mj2, mk2, g_rd_takeStuck_0 hb ⟨_, L0, fun _ => ⟨_, _, c1, _, _, _, c2', fun z => absurd rfl z, fun _ => ⟨rfl, rfl, rfl⟩⟩, fun z => absurd l3 z⟩, g_r_readStuckOne_0 ⟨fun _ => ⟨_, _, d1', _, _, _, d2', _, _, _, D_isW D (by decide) (by decide), fun z => absurd rfl z, fun _ => ⟨_, _, _, D_isW D (by decide) (by decide), fun z => absurd rfl z, fun _ => ⟨fun _ => ⟨mj2, mk2, by rw [D.id]; exact D_next D, fun z => absurd z D.np, fun _ => ⟨rfl, rfl, rfl⟩⟩, fun z => absurd z D.nz⟩⟩⟩, fun z => absurd z n3⟩, (f1.s.l).tr f2.l, (g1.s.l).tr g2.l, Or.inr ⟨rfl, f, _, D2⟩⟩
end
