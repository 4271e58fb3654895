/-! ===== a whole text ===== -/
def RetM (y : Nat) (as : List AV) (rv : Option AV) (c : Nat) (mr : MR) (mi : MI) (ml : ML) (mr' : MR) (mi' : MI) (ml' : ML) : Prop := ∀ Q : Option AV → HP, Q rv c mr' mi' ml' → Ok y 0 0 as Q c mr mi ml
theorem u2_by (f : MR) (x y z : RX) : u2 (u2 (u2 f 4 3 x) 35 4 z) 4 3 y = u2 (u2 f 4 3 y) 35 4 z := by
  funext a k
  rw [u2_if, u2_if, u2_if, u2_if, u2_if]
  by_cases h : a = 4 ∧ k = 3
  · rw [if_pos h, if_neg (show ¬ (a = 35 ∧ k = 4) by omega), if_pos h]
  · rw [if_neg h, if_neg h, if_neg h]
theorem MRc_by {nb db : Nat} {by_ by2 rs : RX} : u2 (MRc nb db by_ rs) 4 3 by2 = MRc nb db by2 rs := u2_by _ _ _ _
section
variable {nb db nc dc : Nat} {by_ rs : RX} {c : Nat} {mi mj m1 m2 m3 mi1 mi2 mi' mj' : MI} {ml mk ml1 ml2 ml' mk' : ML} {t : Nat → Nat} {e p a w f : Nat} {r x y z l3 : Int32} {γ : SG} {lit nsy : Nat} {rv : Option AV}
theorem ra_0 (hb : nb = 43 ∧ db = 5 ∨ nb = 5 ∧ db = 43) (C1 : Ret m_bn_clear [vR 13 0 db] none c (MRc nb db by_ rs) mi ml m1 ml) (C2 : Ret m_rd_next [vR 12 0 4] none c (MRc nb db (some (0, 800, 3)) rs) (u2 (u2 (u2 (u2 (u2 (u2 m1 4 4 (if nI 800 < x then nI 800 else x)) 4 7 (nI 0)) 4 10 (nI 0)) 4 11 (nI 0)) 4 0 (nI 0)) 4 1 (nI 0)) ml m2 ml) (G : Go m_rd_readAll 53 [some (vR 12 0 4), some (vR 0 800 3), some (vI x), some (vI (nI 0))] [] rv c (MRc nb db (some (0, 800, 3)) rs) m2 ml m3 ml) :
    RetM m_rd_readAll [vR 12 0 4, vR 0 800 3, vI x] rv c (MRc nb db by_ rs) mi ml (MRc nb db (some (0, 800, 3)) rs) m3 ml := by
  intro Q hQ
  rw [← MRc_by (by_ := by_)] at C2 G hQ
  rcases hb with ⟨rfl, rfl⟩ | ⟨rfl, rfl⟩
  all_goals
    refine ok_wq inlT 400 rfl rfl ?_
    refine ⟨0, 0, Nat.zero_le _, Nat.zero_le _, C1 _ ?_⟩
    refine ⟨0, 0, Nat.zero_le _, Nat.zero_le _, C2 _ ?_⟩
    exact G Q hQ
theorem ra_bad (hl : ¬ nI 800 < l3) (C : Ret m_rd_takeLine [vR 12 0 4] (some (vI (nI 0))) c (MRc nb db (some (0, 800, 3)) rs) mi ml mi1 ml1) : Go m_rd_readAll 53 [some (vR 12 0 4), some (vR 0 800 3), some (vI x), some (vI l3)] [] (some (vI (nI 0))) c (MRc nb db (some (0, 800, 3)) rs) mi ml mi1 ml1 := by
  intro Q hQ
  refine at_wq inlT 400 rfl ?_
  refine ⟨fun g => absurd g hl, fun _ => ?_⟩
  refine ⟨0, 0, Nat.zero_le _, Nat.zero_le _, C _ ?_⟩
  refine ⟨fun g => absurd rfl g, fun _ => ?_⟩
  refine ⟨Or.inl rfl, ?_⟩
  exact hQ
theorem ra_end (hl : ¬ nI 800 < l3) (C : Ret m_rd_takeLine [vR 12 0 4] (some (vI (nI 1))) c (MRc nb db (some (0, 800, 3)) rs) mi ml mi1 ml1) (h5 : mi1 4 5 = 0) : Go m_rd_readAll 53 [some (vR 12 0 4), some (vR 0 800 3), some (vI x), some (vI l3)] [] (some (vI (nI 1))) c (MRc nb db (some (0, 800, 3)) rs) mi ml mi1 ml1 := by
  intro Q hQ
  refine at_wq inlT 400 rfl ?_
  refine ⟨fun g => absurd g hl, fun _ => ?_⟩
  refine ⟨0, 0, Nat.zero_le _, Nat.zero_le _, C _ ?_⟩
  refine ⟨fun _ => ?_, fun g => absurd g (by decide)⟩
  refine ⟨fun g => absurd h5 g, fun _ => ?_⟩
  refine ⟨Or.inr rfl, ?_⟩
  exact hQ
theorem ra_form (hl : ¬ nI 800 < l3) (C : Ret m_rd_takeLine [vR 12 0 4] (some (vI (nI 1))) c (MRc nb db (some (0, 800, 3)) rs) mi ml mi1 ml1) (h5 : ¬ mi1 4 5 = 0) (h3 : ¬ mi1 4 5 = nI 3) : Go m_rd_readAll 53 [some (vR 12 0 4), some (vR 0 800 3), some (vI x), some (vI l3)] [] (some (vI (nI 0))) c (MRc nb db (some (0, 800, 3)) rs) mi ml (u2 (u2 mi1 4 0 (nI 1)) 4 1 (mi1 4 6)) ml1 := by
  intro Q hQ
  refine at_wq inlT 400 rfl ?_
  refine ⟨fun g => absurd g hl, fun _ => ?_⟩
  refine ⟨0, 0, Nat.zero_le _, Nat.zero_le _, C _ ?_⟩
  refine ⟨fun _ => ?_, fun g => absurd g (by decide)⟩
  refine ⟨fun _ => ?_, fun g => absurd g h5⟩
  refine ⟨fun g => absurd g h3, fun _ => ?_⟩
  refine ⟨Or.inl rfl, ?_⟩
  refine ⟨Or.inl rfl, ?_⟩
  exact hQ
theorem ra_more (hl : ¬ nI 800 < l3) (C : Ret m_rd_takeLine [vR 12 0 4] (some (vI (nI 1))) c (MRc nb db (some (0, 800, 3)) rs) mi ml mi1 ml1) (h5 : ¬ mi1 4 5 = 0) (h3 : mi1 4 5 = nI 3) (C2 : Ret m_rd_next [vR 12 0 4] none c (MRc nb db (some (0, 800, 3)) rs) mi1 ml1 mi2 ml2) (G : Go m_rd_readAll 53 [some (vR 12 0 4), some (vR 0 800 3), some (vI x), some (vI (l3 + nI 1))] [] rv c (MRc nb db (some (0, 800, 3)) rs) mi2 ml2 mi' ml') : Go m_rd_readAll 53 [some (vR 12 0 4), some (vR 0 800 3), some (vI x), some (vI l3)] [] rv c (MRc nb db (some (0, 800, 3)) rs) mi ml mi' ml' := by
  intro Q hQ
  refine at_wq inlT 400 rfl ?_
  refine ⟨fun g => absurd g hl, fun _ => ?_⟩
  refine ⟨0, 0, Nat.zero_le _, Nat.zero_le _, C _ ?_⟩
  refine ⟨fun _ => ?_, fun g => absurd g (by decide)⟩
  refine ⟨fun _ => ?_, fun g => absurd g h5⟩
  refine ⟨fun _ => ?_, fun g => absurd h3 g⟩
  refine ⟨0, 0, Nat.zero_le _, Nat.zero_le _, C2 _ ?_⟩
  exact G Q hQ
/-- how a text ends -/
def RAe (db : Nat) (r : Int32) (mi' mj' : MI) : Prop := (r = nI 1 ∧ ∃ (γ : SG) (lit nsy : Nat), γ 0 0 = 1 ∧ PW γ lit nsy ∧ PDc γ lit nsy db mi' ∧ PDr γ lit nsy mj' ∧ mj' 48 38 = nI 0 ∧ mi' 4 0 = nI 0) ∨ (r = nI 0 ∧ ∃ f a', DD f a' mi' mj')
theorem RA_J (hb : nb = 43 ∧ db = 5 ∨ nb = 5 ∧ db = 43) (he : e ≤ 800) (ht : ∀ k, t k ≤ 255) : ∀ n a, e - a < n → ∀ (i : Nat) (l3 : Int32) (mi mj : MI) (mk : ML) (γ : SG) (lit nsy : Nat), i ≤ a → l3 = nI i → AT t e a mi mj mk → PW γ lit nsy → PDc γ lit nsy db mi → PDr γ lit nsy mj →
    ∃ r mi' mj1 mk1 mj' mk', Go m_rd_readAll 53 [some (vR 12 0 4), some (vR 0 800 3), some (vI x), some (vI l3)] [] (some (vI r)) c (MRc nb db (some (0, 800, 3)) rs) mi ml mi' ml ∧ Ret m_r_readLine [vR 19 0 48] none c (MRc nc dc (some (0, 800, 3)) rs) mj mk mj1 mk1 ∧ Go m_r_readAll 90 [some (vR 19 0 48), some (vI y)] [] none c (MRc nc dc (some (0, 800, 3)) rs) mj1 mk1 mj' mk' ∧ FLc db mi mi' ∧ FLr mj mj' mk mk' ∧ RAe db r mi' mj' := by
  intro n
  induction n with
  | zero => intro a h; exact absurd h (Nat.not_lt_zero _)
  | succ n ih =>
    intro a hn i l3 mi mj mk γ lit nsy hi hl A W P R
    have hae := A.1
    have hl8 : ¬ nI 800 < l3 := by rw [hl, nI_ltI (by decide) (by omega)]; omega
    obtain ⟨r, mi1, mj1, mk1, C, D, L⟩ := L_line (nc := nc) (dc := dc) (c := c) (rs := rs) (ml := ml) hb he ht A W P R
    obtain ⟨Fc, Fr, Q⟩ := L
    rcases Q with ⟨er, γ', lit', nsy', a', haa, hr', A', W', P', R'⟩ | ⟨er, f, a', DDq⟩
    · subst er
      have hk4 := tkK_4 t e a'
      have e35 := A'.2.2.2.1.1
      have e5 := A'.2.1.1
      have h38 := A'.2.2.2.2.2.1
      obtain ⟨N, eN, hN3, hN31, zN, tN⟩ := gN W'.1 hr'
      have n13 : ¬ mj1 48 13 = 0 := nN0 hN3 hN31 (R'.1.trans zN)
      have c0 : mi1 4 5 = 0 ↔ tkK t e a' = 1 := by
        rw [e5]; exact csK_i (j := 1) hk4 (by decide) (by decide)
      have c3 : mi1 4 5 = nI 3 ↔ tkK t e a' = 4 := by
        rw [e5]; exact csK_i (j := 4) hk4 (by decide) (by decide)
      have r1 : mj1 48 35 = nI 1 ↔ tkK t e a' = 1 := by rw [e35, nI_eq (by omega) (by decide)]
      have r4 : mj1 48 35 = nI 4 ↔ tkK t e a' = 4 := by rw [e35, nI_eq (by omega) (by decide)]
      by_cases k1 : tkK t e a' = 1
      · have k4 : ¬ tkK t e a' = 4 := by omega
        exact ⟨nI 1, mi1, mj1, mk1, mj1, mk1, ra_end hl8 C (c0.mpr k1), D, g_r_readAll_90 ⟨fun _ => ⟨fun _ => ⟨fun z => absurd h38 z, fun _ => ⟨fun _ => ⟨rfl, rfl, rfl⟩, fun z => absurd z n13⟩⟩, fun z => absurd (r1.mpr k1) z⟩, fun z => absurd (r4.mp z) k4⟩, Fc, Fr, Or.inl ⟨rfl, γ', lit', nsy', hr', W', P', R', h38, A'.2.2.2.2.2.2⟩⟩
      · by_cases k4 : tkK t e a' = 4
        · have hae' := tkK_e (t := t) (e := e) (a := a') (by omega)
          have n2 := nxA_in (t := t) hae'
          obtain ⟨mi2, mj2, mk2, cn, dn, A2, f2, g2⟩ := J_next (nc := nc) (dc := dc) (nb := nb) (db := db) (rs := rs) (c := c) (ml := ml) he ht A' (by omega)
          have hd : db = 5 ∨ db = 43 := by omega
          obtain ⟨r, mi', mj3, mk3, mj', mk', G1, G2, G3, G4, G5, G6⟩ := ih (nxA t e a') (by omega) (i + 1) (l3 + nI 1) mi2 mj2 mk2 γ' lit' nsy' (by omega) (inc hl) A2 W' (P'.fr hd f2.s) (R'.fr g2.s)
          exact ⟨r, mi', mj1, mk1, mj', mk', ra_more hl8 C (fun z => k1 (c0.mp z)) (c3.mpr k4) cn G1, D, g_r_readAll_90 ⟨fun z => absurd (r4.mpr k4) z, fun _ => ⟨_, _, dn, _, _, G2, G3⟩⟩, (Fc.tr f2.s.l).tr G4, (Fr.tr g2.s.l).tr G5, G6⟩
        · exact ⟨nI 0, _, mj1, mk1, _, mk1, ra_form hl8 C (fun z => k1 (c0.mp z)) (fun z => k4 (c3.mp z)), D, g_r_readAll_90 ⟨fun _ => ⟨fun z => absurd (r1.mp z) k1, fun _ => ⟨fun z => absurd h38 z, fun _ => ⟨rfl, rfl, rfl⟩⟩⟩, fun z => absurd (r4.mp z) k4⟩, Fc.tr FSc.fl.l, Fr.tr FSr.fl.l, Or.inr ⟨rfl, 1, a', DD.at A' (by decide) (by decide)⟩⟩
    · subst er
      have D0 := DDq.2.2.1
      have n1 : ¬ mj1 48 35 = nI 1 := by rw [D0.2.2.2]; decide
      have n4 : ¬ mj1 48 35 = nI 4 := by rw [D0.2.2.2]; decide
      exact ⟨nI 0, mi1, mj1, mk1, mj1, mk1, ra_bad hl8 C, D, g_r_readAll_90 ⟨fun _ => ⟨fun z => absurd z n1, fun _ => ⟨fun _ => ⟨fun _ => ⟨rfl, D0.id.symm, rfl⟩, fun z => absurd z D0.nz⟩, fun z => absurd z D0.nz⟩⟩, fun z => absurd z n4⟩, Fc, Fr, Or.inr ⟨rfl, f, a', DDq⟩⟩
theorem PW_0 : PW (fun _ _ => 0) 0 0 := by
  refine ⟨⟨Or.inl ⟨rfl, rfl, rfl, rfl, rfl, rfl, rfl⟩, by show (0 : Int) ≤ 0 ∧ (0 : Int) ≤ 999; decide, by show (0 : Int) ≤ 0 ∧ (0 : Int) ≤ 999999; decide, by show (0 : Int) ≤ 0 ∧ (0 : Int) < 2 ^ (0 : Int).toNat; decide, by show (0 : Int) ≤ 0 ∧ (0 : Int) ≤ 20; decide, Or.inl rfl, by show (0 : Int) ≤ 0 ∧ (0 : Int) ≤ 10; decide, by show (0 : Int) ≤ 0 ∧ (0 : Int) ≤ 800; decide, by show (0 : Int) ≤ 0 ∧ (0 : Int) ≤ 5; decide, fun j => by show (0 : Int) ≤ 0 ∧ (0 : Int) ≤ 9999; decide, fun j => Or.inl rfl, fun j => by show (-99 : Int) ≤ 0 ∧ (0 : Int) ≤ 99; decide, fun i hi => ?_, fun j => by show (0 : Int) ≤ 0 ∧ (0 : Int) ≤ 255; decide⟩, ⟨rfl, rfl, rfl, rfl, rfl, rfl, rfl, rfl⟩, fun _ => ⟨rfl, rfl, rfl⟩, by decide, by decide, by rw [z_st, pcN_0]; decide, by rw [pcN_0]; decide, by rw [z_lo, pcN_0]; decide⟩
  have hi : (i : Int) < 0 := hi
  omega
theorem RD_J (hb : nb = 43 ∧ db = 5 ∨ nb = 5 ∧ db = 43) (he : e ≤ 800) (ht : ∀ k, t k ≤ 255) (hx : x = nI e) (T3 : ∀ k, k < e → mi 3 k = nI (t k)) (T7 : ∀ k, k < e → mj 57 k &&& nI 255 = nI (t k)) (h33 : mj 48 33 = nI e) (h34 : mj 48 34 = nI 0) (h38 : mj 48 38 = nI 0) :
    ∃ r mi' mj' mk', RetM m_rd_readAll [vR 12 0 4, vR 0 800 3, vI x] (some (vI r)) c (MRc nb db by_ rs) mi ml (MRc nb db (some (0, 800, 3)) rs) mi' ml ∧ Ret m_r_readAll [vR 19 0 48] none c (MRc nc dc (some (0, 800, 3)) rs) mj mk mj' mk' ∧ (∀ b, b ≠ 4 → b < db ∨ db + 4 < b → mi' b = mi b) ∧ FLr mj mj' mk mk' ∧ RAe db r mi' mj' := by
  have hd : db = 5 ∨ db = 43 := by omega
  obtain ⟨m1, C1, z0, z1, zo⟩ := R_clear (nb := nb) (db := db) (by_ := by_) (rs := rs) (c := c) (mi := mi) (ml := ml) (b := db) (by omega)
  have ex : (if nI 800 < x then nI 800 else x) = nI e := by rw [hx, if_neg (by rw [nI_ltI (by decide) (by omega)]; omega)]
  have T2 : TC t e (u2 (u2 (u2 (u2 (u2 (u2 m1 4 4 (if nI 800 < x then nI 800 else x)) 4 7 (nI 0)) 4 10 (nI 0)) 4 11 (nI 0)) 4 0 (nI 0)) 4 1 (nI 0)) := by
    refine ⟨?_, fun k hk => ?_⟩
    · rw [u2_ne2 _ _ (Or.inr (by decide)), u2_ne2 _ _ (Or.inr (by decide)), u2_ne2 _ _ (Or.inr (by decide)), u2_ne2 _ _ (Or.inr (by decide)), u2_ne2 _ _ (Or.inr (by decide)), u2_s, ex]
    · rw [u2_o _ _ (by decide), u2_o _ _ (by decide), u2_o _ _ (by decide), u2_o _ _ (by decide), u2_o _ _ (by decide), u2_o _ _ (by decide), zo 3 (by omega) (by omega) (by omega) (by omega)]; exact T3 k hk
  have q4 : ∀ b, b ≠ 4 → (u2 (u2 (u2 (u2 (u2 (u2 m1 4 4 (if nI 800 < x then nI 800 else x)) 4 7 (nI 0)) 4 10 (nI 0)) 4 11 (nI 0)) 4 0 (nI 0)) 4 1 (nI 0)) b = m1 b := fun b h => by
    rw [u2_o _ _ h, u2_o _ _ h, u2_o _ _ h, u2_o _ _ h, u2_o _ _ h, u2_o _ _ h]
  have e10 : (u2 (u2 (u2 (u2 (u2 (u2 m1 4 4 (if nI 800 < x then nI 800 else x)) 4 7 (nI 0)) 4 10 (nI 0)) 4 11 (nI 0)) 4 0 (nI 0)) 4 1 (nI 0)) 4 10 = nI 0 := by
    rw [u2_ne2 _ _ (Or.inr (by decide)), u2_ne2 _ _ (Or.inr (by decide)), u2_ne2 _ _ (Or.inr (by decide)), u2_s]
  have e11 : (u2 (u2 (u2 (u2 (u2 (u2 m1 4 4 (if nI 800 < x then nI 800 else x)) 4 7 (nI 0)) 4 10 (nI 0)) 4 11 (nI 0)) 4 0 (nI 0)) 4 1 (nI 0)) 4 11 = nI 0 := by
    rw [u2_ne2 _ _ (Or.inr (by decide)), u2_ne2 _ _ (Or.inr (by decide)), u2_s]
  have e7 : (u2 (u2 (u2 (u2 (u2 (u2 m1 4 4 (if nI 800 < x then nI 800 else x)) 4 7 (nI 0)) 4 10 (nI 0)) 4 11 (nI 0)) 4 0 (nI 0)) 4 1 (nI 0)) 4 7 = nI 0 := by
    rw [u2_ne2 _ _ (Or.inr (by decide)), u2_ne2 _ _ (Or.inr (by decide)), u2_ne2 _ _ (Or.inr (by decide)), u2_ne2 _ _ (Or.inr (by decide)), u2_s]
  have e0 : (u2 (u2 (u2 (u2 (u2 (u2 m1 4 4 (if nI 800 < x then nI 800 else x)) 4 7 (nI 0)) 4 10 (nI 0)) 4 11 (nI 0)) 4 0 (nI 0)) 4 1 (nI 0)) 4 0 = nI 0 := by
    rw [u2_ne2 _ _ (Or.inr (by decide)), u2_s]
  obtain ⟨m3, C2, K3, F3⟩ := R_rdnext (nb := nb) (db := db) (rs := rs) (c := c) (ml := ml) T2 he ht e7 (Nat.zero_le e)
  have T3' := T2.fr F3
  have P3 : PDc (fun _ _ => 0) 0 0 db m3 := by
    have g : ∀ b, b ≠ 4 → m3 b = m1 b := fun b h => by rw [F3.1 b h, q4 b h]
    have gd : ∀ k, k < 8 → m3 db k = nI 0 := fun k hk => by rw [g db (by omega)]; exact z0 k hk
    refine ⟨⟨gd 0 (by decide), gd 1 (by decide), gd 2 (by decide), gd 3 (by decide), gd 4 (by decide), ?_, ?_, gd 7 (by decide), fun i hi => ?_, fun i hi => ?_, fun i hi => ?_, fun i hi => ?_⟩, fun k hk => ⟨?_, ?_⟩, ?_, ?_⟩
    · rw [z_op]; exact gd 5 (by decide)
    · rw [z_sh]; exact gd 6 (by decide)
    · have hi : (i : Int) < 0 := hi
      omega
    · have hi : (i : Int) < 0 := hi
      omega
    · have hi : (i : Int) < 0 := hi
      omega
    · have hi : (i : Int) < 0 := hi
      omega
    · rw [g (db + 2) (by omega)]; exact (z1 k hk).2.1
    · rw [g (db + 3) (by omega)]; exact (z1 k hk).2.2
    · rw [F3.2 10 (by omega)]; exact e10
    · rw [F3.2 11 (by omega)]; exact e11
  have qr : ∀ k, (k < 13 ∨ 23 < k) → (zrN (zrN (u2 (u2 (u2 (u2 (u2 (u2 (u2 (u2 mj 48 13 (nI 0)) 48 17 (nI 0)) 48 18 (nI 0)) 48 19 (nI 0)) 48 20 (nI 0)) 48 21 (nI 0)) 48 22 (nI 0)) 48 23 (nI 0)) 55 63) 52 31) 48 k = mj 48 k := fun k hk => by
    rw [zrN_o (by decide), zrN_o (by decide), u2_ne2 _ _ (Or.inr (by omega)), u2_ne2 _ _ (Or.inr (by omega)), u2_ne2 _ _ (Or.inr (by omega)), u2_ne2 _ _ (Or.inr (by omega)), u2_ne2 _ _ (Or.inr (by omega)), u2_ne2 _ _ (Or.inr (by omega)), u2_ne2 _ _ (Or.inr (by omega)), u2_ne2 _ _ (Or.inr (by omega))]
  have qb : ∀ b, b ≠ 48 → b ≠ 52 → b ≠ 55 → (zrN (zrN (u2 (u2 (u2 (u2 (u2 (u2 (u2 (u2 mj 48 13 (nI 0)) 48 17 (nI 0)) 48 18 (nI 0)) 48 19 (nI 0)) 48 20 (nI 0)) 48 21 (nI 0)) 48 22 (nI 0)) 48 23 (nI 0)) 55 63) 52 31) b = mj b := fun b h1 h2 h3 => by
    rw [zrN_o h2, zrN_o h3, u2_o _ _ h1, u2_o _ _ h1, u2_o _ _ h1, u2_o _ _ h1, u2_o _ _ h1, u2_o _ _ h1, u2_o _ _ h1, u2_o _ _ h1]
  have qz : ∀ k, k = 13 ∨ (17 ≤ k ∧ k ≤ 23) → (zrN (zrN (u2 (u2 (u2 (u2 (u2 (u2 (u2 (u2 mj 48 13 (nI 0)) 48 17 (nI 0)) 48 18 (nI 0)) 48 19 (nI 0)) 48 20 (nI 0)) 48 21 (nI 0)) 48 22 (nI 0)) 48 23 (nI 0)) 55 63) 52 31) 48 k = nI 0 := fun k hk => by
    rw [zrN_o (by decide), zrN_o (by decide)]
    have : k = 13 ∨ k = 17 ∨ k = 18 ∨ k = 19 ∨ k = 20 ∨ k = 21 ∨ k = 22 ∨ k = 23 := by omega
    rcases this with h | h | h | h | h | h | h | h <;> rw [h] <;> simp [u2_if]
  have q55 : ∀ k, k < 63 → (zrN (zrN (u2 (u2 (u2 (u2 (u2 (u2 (u2 (u2 mj 48 13 (nI 0)) 48 17 (nI 0)) 48 18 (nI 0)) 48 19 (nI 0)) 48 20 (nI 0)) 48 21 (nI 0)) 48 22 (nI 0)) 48 23 (nI 0)) 55 63) 52 31) 55 k = nI 0 := fun k hk => by
    rw [zrN_o (by decide), zrN_i hk]
  have q52 : ∀ k, k < 31 → (zrN (zrN (u2 (u2 (u2 (u2 (u2 (u2 (u2 (u2 mj 48 13 (nI 0)) 48 17 (nI 0)) 48 18 (nI 0)) 48 19 (nI 0)) 48 20 (nI 0)) 48 21 (nI 0)) 48 22 (nI 0)) 48 23 (nI 0)) 55 63) 52 31) 52 k = nI 0 := fun k hk => zrN_i hk
  have D0 : ∀ {mj' : MI} {mk' : ML}, (∀ l : Int32, l = nI 31 → Go m_r_readAll 63 [some (vR 19 0 48), some (vI l)] [] none c (MRc nc dc (some (0, 800, 3)) rs) (zrN (zrN (u2 (u2 (u2 (u2 (u2 (u2 (u2 (u2 mj 48 13 (nI 0)) 48 17 (nI 0)) 48 18 (nI 0)) 48 19 (nI 0)) 48 20 (nI 0)) 48 21 (nI 0)) 48 22 (nI 0)) 48 23 (nI 0)) 55 63) 52 31) mk mj' mk') → Ret m_r_readAll [vR 19 0 48] none c (MRc nc dc (some (0, 800, 3)) rs) mj mk mj' mk' := fun E => g_r_readAll_0 (RA_42 (RA_63 E))
  generalize (zrN (zrN (u2 (u2 (u2 (u2 (u2 (u2 (u2 (u2 mj 48 13 (nI 0)) 48 17 (nI 0)) 48 18 (nI 0)) 48 19 (nI 0)) 48 20 (nI 0)) 48 21 (nI 0)) 48 22 (nI 0)) 48 23 (nI 0)) 55 63) 52 31) = n1 at qr qb qz q55 q52 D0
  have T1 : TM t e n1 := ⟨by rw [qr 33 (by omega)]; exact h33, fun k hk => by rw [qb 57 (by decide) (by decide) (by decide)]; exact T7 k hk⟩
  have n38 : n1 48 38 = nI 0 := by rw [qr 38 (by omega)]; exact h38
  obtain ⟨n2, k2, D2, K2, G2⟩ := R_rnext (nb := nc) (db := dc) (by_ := some (0, 800, 3)) (rs := rs) (c := c) (mk := mk) T1 he ht n38 (by rw [qr 34 (by omega)]; exact h34) (Nat.zero_le e)
  have A : AT t e (tkA t e 0) m3 n2 k2 := ⟨(tkA_in (Nat.zero_le e)).2, K3, T3', K2, T1.fr G2, by rw [G2.2.1 38 (by omega)]; exact n38, by rw [F3.2 0 (by omega)]; exact e0⟩
  have R2 : PDr (fun _ _ => 0) 0 0 n2 := by
    have g : ∀ k, k = 13 ∨ (17 ≤ k ∧ k ≤ 23) → n2 48 k = nI 0 := fun k hk => by rw [G2.2.1 k (by omega)]; exact qz k hk
    refine ⟨g 13 (by omega), fun z => absurd (show (0 : Int) = 1 from z) (by decide), g 17 (by omega), ?_, ?_, ?_, g 21 (by omega), ?_, g 23 (by omega), fun k hk => ?_, fun i hi => ?_, fun k hk => ⟨?_, ?_⟩, ?_⟩
    · rw [z_st, pcN_0]; exact g 18 (by omega)
    · rw [pcN_0]; exact g 19 (by omega)
    · rw [z_lo, pcN_0]; exact g 20 (by omega)
    · rw [z_st]; exact g 22 (by omega)
    · rw [G2.1 52 (by decide)]; exact q52 k hk
    · have hi : (i : Int) < 0 := hi
      omega
    · rw [G2.1 55 (by decide)]; exact q55 k (by omega)
    · rw [G2.1 55 (by decide)]; exact q55 (31 + k) (by omega)
    · rw [G2.1 55 (by decide)]; exact q55 62 (by omega)
  obtain ⟨r, mi', mj1, mk1, mj', mk', H1, H2, H3, H4, H5, H6⟩ := RA_J (nc := nc) (dc := dc) (c := c) (rs := rs) (ml := ml) (x := x) (y := nI 31) hb he ht (e + 1) (tkA t e 0) (by omega) 0 (nI 0) m3 n2 k2 (fun _ _ => 0) 0 0 (Nat.zero_le _) rfl A PW_0 P3 R2
  refine ⟨r, mi', mj', mk', ra_0 hb C1 C2 H1, D0 (fun l hl => ?_), fun b h1 h2 => ?_, ?_, H6⟩
  · subst hl
    exact g_r_readAll_63 ⟨fun _ => ⟨_, _, D2, _, _, H2, H3⟩, fun z => absurd (by decide) z⟩
  · rw [H4.1 b h1 h2, F3.1 b h1, q4 b h1, zo b (by omega) (by omega) (by omega) (by omega)]
  · exact FLr.tr ⟨fun b h1 h2 h3 h4 => by rw [G2.1 b h1, qb b h1 h2 h4], fun k hk => by rw [G2.2.1 k (by omega), qr k (by omega)], fun b hb => by rw [G2.2.2 b hb]⟩ H5
end
