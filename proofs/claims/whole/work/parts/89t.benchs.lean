/-! ===== the line of a bench of squares, and of no kind ===== -/
section
variable {nb db nc dc : Nat} {by_ rs : RX} {c : Nat} {mi mj : MI} {ml mk : ML} {t : Nat → Nat} {e p a w f : Nat} {x y z : Int32}
theorem L_bsq (hb : nb = 43 ∧ db = 5 ∨ nb = 5 ∧ db = 43) (he : e ≤ 800) (ht : ∀ k, t k ≤ 255) (A : AT t e a mi mj mk) (hk : tkK t e a = 2) (P : PDc (fun _ _ => 0) 0 0 db mi) (R : PDr (fun _ _ => 0) 0 0 mj) (h7 : ¬ isW t e (nxA t e a) 7) (hw : isW t e (nxA t e a) 8) :
    ∃ r mi' mj' mk', Ret m_rd_takeBench [vR 12 0 4] (some (vI r)) c (MRc nb db (some (0, 800, 3)) rs) mi ml mi' ml ∧ Ret m_r_readBench [vR 19 0 48] none c (MRc nc dc (some (0, 800, 3)) rs) mj mk mj' mk' ∧ LR t e a db r mi mi' mj mj' mk mk' := by
  have hd : db = 5 ∨ db = 43 := by omega
  have h13 : mj 48 13 ≤ 0 := by rw [R.1]; decide
  obtain ⟨mi1, mj1, mk1, c1, d1, A1, f1, g1⟩ := J_next (nc := nc) (dc := dc) (nb := nb) (db := db) (rs := rs) (c := c) (ml := ml) he ht A (by rw [hk]; decide)
  have n1 := nxA_in (t := t) (tk_word hk).1
  obtain ⟨mi2, mj2, mk2, c2, d2, A2, f2, g2⟩ := J_next (nc := nc) (dc := dc) (nb := nb) (db := db) (rs := rs) (c := c) (ml := ml) he ht A1 (by rw [hw.1]; decide)
  have n2 := nxA_in (t := t) (tk_word hw.1).1
  have Wc7 := W_c_f (nb := nb) (db := db) (c := c) (rs := rs) (ml := ml) A1.2.1 A1.2.2.1 he ht (by decide) (by decide) h7
  have Wr7 := W_r_f (nb := nc) (db := dc) (by_ := some (0, 800, 3)) (c := c) (rs := rs) A1.2.2.2.1 (by decide) (by decide) h7
  have Wc8 := W_c_t (nb := nb) (db := db) (c := c) (rs := rs) (ml := ml) A1.2.1 A1.2.2.1 he (by decide) (by decide) hw
  have Wr8 := W_r_t (nb := nc) (db := dc) (by_ := some (0, 800, 3)) (c := c) (rs := rs) A1.2.2.2.1 (by decide) (by decide) hw
  have F2 : FSc mi mi2 := f1.s.tr f2.s
  have G2 : FSr mj mj2 mk mk2 := g1.s.tr g2.s
  by_cases h3 : tkK t e (nxA t e (nxA t e a)) = 3
  · have e45 : mi2 4 5 = nI 2 := by rw [A2.2.1.1, h3]; rfl
    have e48 := A2.2.1.2.2.2 h3
    have bd := (tk_whole h3).2
    by_cases hp : isPr (vlN t (nxA t e (nxA t e a)) (tkB t e (nxA t e (nxA t e a)) - nxA t e (nxA t e a)))
    · have hN : 3 ≤ vlN t (nxA t e (nxA t e a)) (tkB t e (nxA t e (nxA t e a)) - nxA t e (nxA t e a)) ∧ vlN t (nxA t e (nxA t e a)) (tkB t e (nxA t e (nxA t e a)) - nxA t e (nxA t e a)) ≤ 31 := by unfold isPr at hp; omega
      have cp := R_prime_t (nb := nb) (db := db) (c := c) (rs := rs) (ml := ml) (mi := mi2) hp e48
      obtain ⟨mi3, mj3, mk3, c3, d3, f3, g3, e93, A3⟩ := C_whole_t (nc := nc) (dc := dc) (nb := nb) (db := db) (c := c) (rs := rs) (ml := ml) he ht (lo := 3) (hi := 31) (by decide) (by decide) A2 h3 hN.1 hN.2
      have d3' := R_order_t (nb := nc) (db := dc) (by_ := some (0, 800, 3)) (c := c) (rs := rs) A2 h3 hp d3
      generalize vlN t (nxA t e (nxA t e a)) (tkB t e (nxA t e (nxA t e a)) - nxA t e (nxA t e a)) = N at hp hN cp e93 d3' e48
      have n3 := nxA_in (t := t) (tk_whole h3).1
      have F3 : FSc mi mi3 := F2.tr f3
      have G3 : FSr mj mj3 mk mk3 := G2.tr g3.s
      obtain ⟨v6, v8, mj5, mk5, mj6, mk6, mj7, mk7, mj8, mk8, d5, d6, d7, d8, G8, Q8⟩ := J_tail (nc := nc) (dc := dc) (nb := nb) (c := c) (rs := rs) (ml := ml) hd he ht A3
      rcases Q8 with ⟨mi5, mi6, mi7, mi8, dk, tp, a', c5, c6, c7, c8, ev6, ev8, e96, e98, hdk, htp1, htp, haa, A8, F8⟩ | ⟨f, a', mf, D8, Ff, ways⟩
      · subst ev6 ev8
        have h38 : mj8 48 38 ≤ 0 := by rw [A8.2.2.2.2.2.1]; decide
        obtain ⟨m9, c9, L9⟩ := R_mkSquares (nb := nb) (db := db) (by_ := some (0, 800, 3)) (rs := rs) (c := c) (ml := ml) (mi := u2 mi8 db 3 (mi8 4 9)) (show db = 43 ∨ db = 5 by omega) hp e93
        have hOK : bnOK 1 N = true := by
          rcases hp with h | h | h | h | h | h <;> subst h <;> decide
        have q : ∀ z, z ≠ db + 1 → m9 z = (u2 (u2 (u2 mi8 db 3 (mi8 4 9)) db 1 (nI 1)) db 0 (nI N)) z := L9.2.2
        have qo : ∀ z, z ≠ 4 → z ≠ db → z ≠ db + 1 → m9 z = mi z := fun z h1 h2 h3 => by rw [q z h3, u2_o _ _ h2, u2_o _ _ h2, u2_o _ _ h2, F8.1 z h1, u2_o _ _ h2, F3.1 z h1]
        have q4 : ∀ j, m9 4 j = mi8 4 j := fun j => by rw [q 4 (by omega), u2_o _ _ (by omega), u2_o _ _ (by omega), u2_o _ _ (by omega)]
        have qd : ∀ j, j ≠ 0 → j ≠ 1 → j ≠ 3 → m9 db j = (u2 mi3 db 2 (nI dk)) db j := fun j h0 h1 h3 => by rw [q db (by omega), u2_ne2 _ _ (Or.inr h0), u2_ne2 _ _ (Or.inr h1), u2_ne2 _ _ (Or.inr h3), F8.1 db (by omega)]
        obtain ⟨P', R'⟩ := P_bench (N := N) (kd := 1) (dk := dk) (tp := tp) (m3 := m9) (m4 := mj8) hd hN.2 P R (by rw [q db (by omega), u2_s]) (by rw [q db (by omega), u2_ne2 _ _ (Or.inr (by decide)), u2_s]) (by rw [qd 2 (by decide) (by decide) (by decide), u2_s]) (by rw [q db (by omega), u2_ne2 _ _ (Or.inr (by decide)), u2_ne2 _ _ (Or.inr (by decide)), u2_s, e98]) (fun j hj => by rw [qd j (by omega) (by omega) (by omega), u2_ne2 _ _ (Or.inr (by omega)), F3.1 db (by omega)]) (fun i hi => L9.1 i (Nat.zero_le _) hi) qo (by rw [q4, F8.2 10 (by omega), u2_o _ _ (by omega), F3.2 10 (by omega)]) (by rw [q4, F8.2 11 (by omega), u2_o _ _ (by omega), F3.2 11 (by omega)]) (fun b hb4 => by rw [G8.1 b hb4, G3.1 b hb4]) (fun j hj => by rw [G8.2.1 j (by omega), G3.2.1 j (by omega)])
        have A9 : AT t e a' m9 mj8 mk8 := ⟨A8.1, by have h := A8.2.1; unfold KC at h ⊢; rw [q4, q4, q4, q4]; exact h, ⟨by rw [q4]; exact A8.2.2.1.1, fun i hi => by rw [q 3 (by omega), u2_o _ _ (by omega), u2_o _ _ (by omega), u2_o _ _ (by omega)]; exact A8.2.2.1.2 i hi⟩, A8.2.2.2.1, A8.2.2.2.2.1, A8.2.2.2.2.2.1, by rw [q4]; exact A8.2.2.2.2.2.2⟩
        refine ⟨nI 1, m9, u2 (u2 (u2 (u2 mj8 48 13 (nI N)) 48 14 (nI 1)) 48 15 (nI dk)) 48 16 (nI tp), mk8, g_rd_takeBench_0 hb ⟨_, _, c1, _, _, _, Wc7, fun z => absurd rfl z, fun _ => ⟨_, _, _, Wc8, fun _ => ⟨_, _, c2, fun z => absurd rfl z, fun _ => ⟨fun z => absurd e45 z, fun _ => ⟨_, cp, fun _ => ⟨fun _ => ⟨_, _, _, c3, fun _ => ⟨_, _, _, c5, fun z => absurd z (by decide), fun _ => ⟨_, _, _, c6, fun _ => ⟨_, _, _, c7, fun z => absurd z (by decide), fun _ => ⟨_, _, _, c8, fun _ => ⟨fun _ => ⟨_, _, c9, rfl, rfl, rfl⟩, fun z => absurd rfl z⟩, fun z => absurd z (by decide)⟩⟩, fun z => absurd z (by decide)⟩⟩, fun z => absurd z (by decide)⟩, fun z => absurd rfl z⟩, fun z => absurd z (by decide)⟩⟩⟩, fun z => absurd z (by decide)⟩⟩, g_r_readBench_0 ⟨fun _ => ⟨_, _, d1, _, _, _, Wr7, fun z => absurd rfl z, fun _ => ⟨_, _, _, Wr8, fun _ => ⟨_, _, d2, fun _ => ⟨_, _, _, d3', _, _, d5, _, _, _, d6, _, _, d7, _, _, _, d8, fun _ => ⟨fun _ => ⟨fun _ => ⟨rfl, rfl, rfl⟩, fun z => absurd rfl z⟩, fun z => absurd rfl z⟩, fun z => absurd h38 z⟩, fun z => absurd rfl z⟩, fun z => absurd z (by decide)⟩⟩, fun z => absurd h13 z⟩, ?_, ?_, Or.inl ⟨rfl, bnS N 1 dk tp, 0, 0, a', by omega, rfl, (((A9.ro _ (by omega)).ro _ (by omega)).ro _ (by omega)).ro _ (by omega), bnS_W hOK hdk htp, P', R'⟩⟩
        · exact ⟨fun b h1 h2 => qo b h1 (by omega) (by omega), by rw [q4, F8.2 4 (by omega), u2_o _ _ (by omega), F3.2 4 (by omega)]⟩
        · exact ((((G3.tr G8).l.tr (FLr.k _ (by decide))).tr (FLr.k _ (by decide))).tr (FLr.k _ (by decide))).tr (FLr.k _ (by decide))
      · have np := D8.2.2.1.np
        refine ⟨nI 0, mf, mj8, mk8, g_rd_takeBench_0 hb ⟨_, _, c1, _, _, _, Wc7, fun z => absurd rfl z, fun _ => ⟨_, _, _, Wc8, fun _ => ⟨_, _, c2, fun z => absurd rfl z, fun _ => ⟨fun z => absurd e45 z, fun _ => ⟨_, cp, fun _ => ⟨fun _ => ⟨_, _, _, c3, fun _ => ?_, fun z => absurd z (by decide)⟩, fun z => absurd rfl z⟩, fun z => absurd z (by decide)⟩⟩⟩, fun z => absurd z (by decide)⟩⟩, g_r_readBench_0 ⟨fun _ => ⟨_, _, d1, _, _, _, Wr7, fun z => absurd rfl z, fun _ => ⟨_, _, _, Wr8, fun _ => ⟨_, _, d2, fun _ => ⟨_, _, _, d3', _, _, d5, _, _, _, d6, _, _, d7, _, _, _, d8, fun z => absurd z np, fun _ => ⟨rfl, rfl, rfl⟩⟩, fun z => absurd rfl z⟩, fun z => absurd z (by decide)⟩⟩, fun z => absurd h13 z⟩, F3.l.tr Ff, (G3.tr G8).l, Or.inr ⟨rfl, f, a', D8⟩⟩
        rcases ways with c5 | ⟨mi5, c5, c6 | ⟨mi6, c6, c7 | ⟨mi7, c7, c8⟩⟩⟩
        · exact ⟨_, _, _, c5, fun _ => ⟨rfl, rfl, rfl⟩, fun z => absurd rfl z⟩
        · exact ⟨_, _, _, c5, fun z => absurd z (by decide), fun _ => ⟨_, _, _, c6, fun z => absurd rfl z, fun _ => ⟨rfl, rfl, rfl⟩⟩⟩
        · exact ⟨_, _, _, c5, fun z => absurd z (by decide), fun _ => ⟨_, _, _, c6, fun _ => ⟨_, _, _, c7, fun _ => ⟨rfl, rfl, rfl⟩, fun z => absurd rfl z⟩, fun z => absurd z (by decide)⟩⟩
        · exact ⟨_, _, _, c5, fun z => absurd z (by decide), fun _ => ⟨_, _, _, c6, fun _ => ⟨_, _, _, c7, fun z => absurd z (by decide), fun _ => ⟨_, _, _, c8, fun z => absurd rfl z, fun _ => ⟨rfl, rfl, rfl⟩⟩⟩, fun z => absurd z (by decide)⟩⟩
    · have cp := R_prime_f (nb := nb) (db := db) (c := c) (rs := rs) (ml := ml) (mi := mi2) hp (by omega) e48
      obtain ⟨v3, d3⟩ := R_order_f (nb := nc) (db := dc) (by_ := some (0, 800, 3)) (c := c) (rs := rs) A2 h3 hp
      have D3 := DD.at (f := 2) A2 (by decide) (by decide)
      have D := D3.2.2.1
      exact ⟨nI 0, _, _, mk2, g_rd_takeBench_0 hb ⟨_, _, c1, _, _, _, Wc7, fun z => absurd rfl z, fun _ => ⟨_, _, _, Wc8, fun _ => ⟨_, _, c2, fun z => absurd rfl z, fun _ => ⟨fun z => absurd e45 z, fun _ => ⟨_, cp, fun z => absurd rfl z, fun _ => ⟨rfl, rfl, rfl⟩⟩⟩⟩, fun z => absurd z (by decide)⟩⟩, g_r_readBench_0 ⟨fun _ => ⟨_, _, d1, _, _, _, Wr7, fun z => absurd rfl z, fun _ => ⟨_, _, _, Wr8, fun _ => ⟨_, _, d2, fun _ => ⟨_, _, _, d3, _, _, D_needs D (by decide) (by decide), _, _, _, D_readWhole D _ _, _, _, D_needs D (by decide) (by decide), _, _, _, D_readWhole D _ _, fun z => absurd z D.np, fun _ => ⟨rfl, rfl, rfl⟩⟩, fun z => absurd rfl z⟩, fun z => absurd z (by decide)⟩⟩, fun z => absurd h13 z⟩, (F2.tr FSc.fl).l, (G2.tr FSr.fl).l, Or.inr ⟨rfl, 2, _, D3⟩⟩
  · have n45 := A2.n3 h3
    have c3 := C_whole_n (nb := nb) (db := db) (c := c) (rs := rs) (ml := ml) A2 h3 (nI 3) (nI 31)
    have d3 := R_order_n (nb := nc) (db := dc) (by_ := some (0, 800, 3)) (c := c) (rs := rs) A2 h3
    have D3 := DD.at (f := 1) A2 (by decide) (by decide)
    have D := D3.2.2.1
    exact ⟨nI 0, _, _, mk2, g_rd_takeBench_0 hb ⟨_, _, c1, _, _, _, Wc7, fun z => absurd rfl z, fun _ => ⟨_, _, _, Wc8, fun _ => ⟨_, _, c2, fun z => absurd rfl z, fun _ => ⟨fun _ => ⟨fun _ => ⟨_, _, _, c3, fun z => absurd rfl z, fun _ => ⟨rfl, rfl, rfl⟩⟩, fun z => absurd rfl z⟩, fun z => absurd z n45⟩⟩, fun z => absurd z (by decide)⟩⟩, g_r_readBench_0 ⟨fun _ => ⟨_, _, d1, _, _, _, Wr7, fun z => absurd rfl z, fun _ => ⟨_, _, _, Wr8, fun _ => ⟨_, _, d2, fun _ => ⟨_, _, _, d3, _, _, D_needs D (by decide) (by decide), _, _, _, D_readWhole D _ _, _, _, D_needs D (by decide) (by decide), _, _, _, D_readWhole D _ _, fun z => absurd z D.np, fun _ => ⟨rfl, rfl, rfl⟩⟩, fun z => absurd rfl z⟩, fun z => absurd z (by decide)⟩⟩, fun z => absurd h13 z⟩, (F2.tr FSc.fl).l, (G2.tr FSr.fl).l, Or.inr ⟨rfl, 1, _, D3⟩⟩
theorem L_bno (hb : nb = 43 ∧ db = 5 ∨ nb = 5 ∧ db = 43) (he : e ≤ 800) (ht : ∀ k, t k ≤ 255) (A : AT t e a mi mj mk) (hk : tkK t e a = 2) (R : PDr (fun _ _ => 0) 0 0 mj) (h7 : ¬ isW t e (nxA t e a) 7) (h8 : ¬ isW t e (nxA t e a) 8) :
    ∃ r mi' mj' mk', Ret m_rd_takeBench [vR 12 0 4] (some (vI r)) c (MRc nb db (some (0, 800, 3)) rs) mi ml mi' ml ∧ Ret m_r_readBench [vR 19 0 48] none c (MRc nc dc (some (0, 800, 3)) rs) mj mk mj' mk' ∧ LR t e a db r mi mi' mj mj' mk mk' := by
  have h13 : mj 48 13 ≤ 0 := by rw [R.1]; decide
  obtain ⟨mi1, mj1, mk1, c1, d1, A1, f1, g1⟩ := J_next (nc := nc) (dc := dc) (nb := nb) (db := db) (rs := rs) (c := c) (ml := ml) he ht A (by rw [hk]; decide)
  have Wc7 := W_c_f (nb := nb) (db := db) (c := c) (rs := rs) (ml := ml) A1.2.1 A1.2.2.1 he ht (by decide) (by decide) h7
  have Wr7 := W_r_f (nb := nc) (db := dc) (by_ := some (0, 800, 3)) (c := c) (rs := rs) A1.2.2.2.1 (by decide) (by decide) h7
  have Wc8 := W_c_f (nb := nb) (db := db) (c := c) (rs := rs) (ml := ml) A1.2.1 A1.2.2.1 he ht (by decide) (by decide) h8
  have Wr8 := W_r_f (nb := nc) (db := dc) (by_ := some (0, 800, 3)) (c := c) (rs := rs) A1.2.2.2.1 (by decide) (by decide) h8
  have D1 := DD.at (f := 1) A1 (by decide) (by decide)
  have D := D1.2.2.1
  exact ⟨nI 0, _, _, mk1, g_rd_takeBench_0 hb ⟨_, _, c1, _, _, _, Wc7, fun z => absurd rfl z, fun _ => ⟨_, _, _, Wc8, fun z => absurd rfl z, fun _ => ⟨rfl, rfl, rfl⟩⟩⟩, g_r_readBench_0 ⟨fun _ => ⟨_, _, d1, _, _, _, Wr7, fun z => absurd rfl z, fun _ => ⟨_, _, _, Wr8, fun z => absurd rfl z, fun _ => ⟨fun z => absurd A1.2.2.2.2.2.1 z, fun _ => ⟨_, _, D_next D, fun _ => ⟨_, _, _, D_order D, _, _, D_needs D (by decide) (by decide), _, _, _, D_readWhole D _ _, _, _, D_needs D (by decide) (by decide), _, _, _, D_readWhole D _ _, fun z => absurd z D.np, fun _ => ⟨rfl, rfl, rfl⟩⟩, fun z => absurd rfl z⟩⟩⟩⟩, fun z => absurd h13 z⟩, (f1.s.tr FSc.fl).l, (g1.s.tr FSr.fl).l, Or.inr ⟨rfl, 1, _, D1⟩⟩
/-- the line of a bench, nothing read before -/
theorem L_bench (hb : nb = 43 ∧ db = 5 ∨ nb = 5 ∧ db = 43) (he : e ≤ 800) (ht : ∀ k, t k ≤ 255) (A : AT t e a mi mj mk) (hk : tkK t e a = 2) (P : PDc (fun _ _ => 0) 0 0 db mi) (R : PDr (fun _ _ => 0) 0 0 mj) :
    ∃ r mi' mj' mk', Ret m_rd_takeBench [vR 12 0 4] (some (vI r)) c (MRc nb db (some (0, 800, 3)) rs) mi ml mi' ml ∧ Ret m_r_readBench [vR 19 0 48] none c (MRc nc dc (some (0, 800, 3)) rs) mj mk mj' mk' ∧ LR t e a db r mi mi' mj mj' mk mk' := by
  by_cases h7 : isW t e (nxA t e a) 7
  · exact L_bdbl hb he ht A hk P R h7
  · by_cases h8 : isW t e (nxA t e a) 8
    · exact L_bsq hb he ht A hk P R h7 h8
    · exact L_bno hb he ht A hk R h7 h8
end
