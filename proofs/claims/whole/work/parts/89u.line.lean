/-! ===== a line ===== -/
section
variable {nb db nc dc : Nat} {by_ rs : RX} {c : Nat} {mi mj mi' mj' : MI} {ml mk mk' : ML} {t : Nat → Nat} {e p a w f : Nat} {r x y z : Int32} {γ : SG} {lit nsy : Nat}
theorem LR.b (h : LR t e a db r mi mi' mj mj' mk mk') : r = 0 ∨ r = 1 := by
  rcases h.2.2 with ⟨g, -⟩ | ⟨g, -⟩
  · exact Or.inr g
  · exact Or.inl g
theorem LR.fl (A : AT t e a mi mj mk) (f0 : 0 < f) (f5 : f ≤ 5) : LR t e a db (nI 0) mi (u2 (u2 mi 4 0 (nI f)) 4 1 (mi 4 6)) mj (u2 (u2 mj 48 38 (nI f)) 48 35 (nI 0)) mk mk :=
  ⟨FSc.fl.l, FSr.fl.l, Or.inr ⟨rfl, f, a, DD.at A f0 f5⟩⟩
theorem z_lo : loB (fun _ _ => 0 : SG) = 0 := rfl
theorem L_line (hb : nb = 43 ∧ db = 5 ∨ nb = 5 ∧ db = 43) (he : e ≤ 800) (ht : ∀ k, t k ≤ 255) (A : AT t e a mi mj mk) (W : PW γ lit nsy) (P : PDc γ lit nsy db mi) (R : PDr γ lit nsy mj) :
    ∃ r mi' mj' mk', Ret m_rd_takeLine [vR 12 0 4] (some (vI r)) c (MRc nb db (some (0, 800, 3)) rs) mi ml mi' ml ∧ Ret m_r_readLine [vR 19 0 48] none c (MRc nc dc (some (0, 800, 3)) rs) mj mk mj' mk' ∧ LR t e a db r mi mi' mj mj' mk mk' := by
  have ct : ∀ {w : Nat}, w < 15 → 0 < w → isW t e a w → Ret m_rd_isWord [vR 12 0 4, vR 100 0 w] (some (vI (nI 1))) c (MRc nb db (some (0, 800, 3)) rs) mi ml mi ml := fun h1 h2 h => W_c_t A.2.1 A.2.2.1 he h1 h2 h
  have cf : ∀ {w : Nat}, w < 15 → 0 < w → ¬ isW t e a w → Ret m_rd_isWord [vR 12 0 4, vR 100 0 w] (some (vI (nI 0))) c (MRc nb db (some (0, 800, 3)) rs) mi ml mi ml := fun h1 h2 h => W_c_f A.2.1 A.2.2.1 he ht h1 h2 h
  have rt : ∀ {w : Nat}, w < 15 → 0 < w → isW t e a w → Ret m_r_isWord [vR 19 0 48, vR 100 0 w] (some (vI (nI 1))) c (MRc nc dc (some (0, 800, 3)) rs) mj mk mj mk := fun h1 h2 h => W_r_t A.2.2.2.1 h1 h2 h
  have rf : ∀ {w : Nat}, w < 15 → 0 < w → ¬ isW t e a w → Ret m_r_isWord [vR 19 0 48, vR 100 0 w] (some (vI (nI 0))) c (MRc nc dc (some (0, 800, 3)) rs) mj mk mj mk := fun h1 h2 h => W_r_f A.2.2.2.1 h1 h2 h
  have h38 : mj 48 38 = nI 0 := A.2.2.2.2.2.1
  have rr : γ 0 0 = 0 ∨ γ 0 0 = 1 := by
    rcases W.1.1 with h | h
    · exact Or.inl h.1
    · exact Or.inr h.1
  rcases rr with hr | hr
  · obtain ⟨eγ, el, en⟩ := W.2.2.1 hr
    subst eγ el en
    have k0 : mi db 0 = 0 := P.1.1
    have k1 : mi db 0 ≤ 0 := by rw [k0]; decide
    have m0 : mj 48 13 = 0 := R.1
    have e17 : mj 48 17 = nI 0 := R.2.2.1
    have e18 : mj 48 18 = nI 0 := by have := R.2.2.2.1; rw [z_st, pcN_0] at this; exact this
    have e19 : mj 48 19 = nI 0 := by have := R.2.2.2.2.1; rw [pcN_0] at this; exact this
    have e20 : mj 48 20 = nI 0 := by have := R.2.2.2.2.2.1; rw [z_lo, pcN_0] at this; exact this
    have L5 := LR.fl (f := 5) (db := db) A (by decide) (by decide)
    by_cases h1 : isW t e a 1
    · obtain ⟨r, mi', mj', mk', C, D, L⟩ := L_bench (nc := nc) (dc := dc) (c := c) (rs := rs) (ml := ml) hb he ht A h1.1 P R
      exact ⟨r, mi', mj', mk', g_rd_takeLine_0 hb ⟨_, _, _, ct (by decide) (by decide) h1, fun z => absurd z (by decide), fun _ => ⟨fun _ => ⟨_, _, _, C, L.b, rfl, rfl, rfl⟩, fun z => absurd k1 z⟩⟩, g_r_readLine_0 ⟨_, _, _, rt (by decide) (by decide) h1, fun z => absurd z (by decide), fun _ => ⟨_, _, D, rfl, rfl, rfl⟩⟩, L⟩
    · have c1 := cf (w := 1) (by decide) (by decide) h1
      have d1 := rf (w := 1) (by decide) (by decide) h1
      by_cases h2 : isW t e a 2
      · exact ⟨_, _, _, _, g_rd_takeLine_0 hb ⟨_, _, _, c1, fun _ => ⟨_, _, _, ct (by decide) (by decide) h2, fun _ => ⟨fun z => absurd k0 z, fun _ => ⟨rfl, rfl, rfl⟩⟩, fun z => absurd z (by decide)⟩, fun z => absurd rfl z⟩, g_r_readLine_0 ⟨_, _, _, d1, fun _ => ⟨_, _, _, rt (by decide) (by decide) h2, fun z => absurd z (by decide), fun _ => ⟨_, _, X_light m0 h38, rfl, rfl, rfl⟩⟩, fun z => absurd rfl z⟩, L5⟩
      · have c2 := cf (w := 2) (by decide) (by decide) h2
        have d2 := rf (w := 2) (by decide) (by decide) h2
        by_cases h3 : isW t e a 3
        · exact ⟨_, _, _, _, g_rd_takeLine_0 hb ⟨_, _, _, c1, fun _ => ⟨_, _, _, c2, fun z => absurd rfl z, fun _ => ⟨_, _, _, ct (by decide) (by decide) h3, fun _ => ⟨fun z => absurd k0 z, fun _ => ⟨rfl, rfl, rfl⟩⟩, fun z => absurd z (by decide)⟩⟩, fun z => absurd rfl z⟩, g_r_readLine_0 ⟨_, _, _, d1, fun _ => ⟨_, _, _, d2, fun _ => ⟨_, _, _, rt (by decide) (by decide) h3, fun z => absurd z (by decide), fun _ => ⟨_, _, X_stuck m0 h38 (by rw [e18]; decide), rfl, rfl, rfl⟩⟩, fun z => absurd rfl z⟩, fun z => absurd rfl z⟩, L5⟩
        · have c3 := cf (w := 3) (by decide) (by decide) h3
          have d3 := rf (w := 3) (by decide) (by decide) h3
          by_cases h4 : isW t e a 4
          · exact ⟨_, _, _, _, g_rd_takeLine_0 hb ⟨_, _, _, c1, fun _ => ⟨_, _, _, c2, fun z => absurd rfl z, fun _ => ⟨_, _, _, c3, fun z => absurd rfl z, fun _ => ⟨_, _, _, ct (by decide) (by decide) h4, fun _ => ⟨fun z => absurd k0 z, fun _ => ⟨rfl, rfl, rfl⟩⟩, fun z => absurd z (by decide)⟩⟩⟩, fun z => absurd rfl z⟩, g_r_readLine_0 ⟨_, _, _, d1, fun _ => ⟨_, _, _, d2, fun _ => ⟨_, _, _, d3, fun _ => ⟨_, _, _, rt (by decide) (by decide) h4, fun z => absurd z (by decide), fun _ => ⟨_, _, X_noise m0 h38 (by rw [e19]; decide), rfl, rfl, rfl⟩⟩, fun z => absurd rfl z⟩, fun z => absurd rfl z⟩, fun z => absurd rfl z⟩, L5⟩
          · have c4 := cf (w := 4) (by decide) (by decide) h4
            have d4 := rf (w := 4) (by decide) (by decide) h4
            by_cases h5 : isW t e a 5
            · exact ⟨_, _, _, _, g_rd_takeLine_0 hb ⟨_, _, _, c1, fun _ => ⟨_, _, _, c2, fun z => absurd rfl z, fun _ => ⟨_, _, _, c3, fun z => absurd rfl z, fun _ => ⟨_, _, _, c4, fun z => absurd rfl z, fun _ => ⟨_, _, _, ct (by decide) (by decide) h5, fun _ => ⟨fun z => absurd k0 z, fun _ => ⟨rfl, rfl, rfl⟩⟩, fun z => absurd z (by decide)⟩⟩⟩⟩, fun z => absurd rfl z⟩, g_r_readLine_0 ⟨_, _, _, d1, fun _ => ⟨_, _, _, d2, fun _ => ⟨_, _, _, d3, fun _ => ⟨_, _, _, d4, fun _ => ⟨_, _, _, rt (by decide) (by decide) h5, fun z => absurd z (by decide), fun _ => ⟨_, _, X_lost m0 h38 (by rw [e20]; decide), rfl, rfl, rfl⟩⟩, fun z => absurd rfl z⟩, fun z => absurd rfl z⟩, fun z => absurd rfl z⟩, fun z => absurd rfl z⟩, L5⟩
            · have c5 := cf (w := 5) (by decide) (by decide) h5
              have d5 := rf (w := 5) (by decide) (by decide) h5
              by_cases h6 : isW t e a 6
              · exact ⟨_, _, _, _, g_rd_takeLine_0 hb ⟨_, _, _, c1, fun _ => ⟨_, _, _, c2, fun z => absurd rfl z, fun _ => ⟨_, _, _, c3, fun z => absurd rfl z, fun _ => ⟨_, _, _, c4, fun z => absurd rfl z, fun _ => ⟨_, _, _, c5, fun z => absurd rfl z, fun _ => ⟨_, _, _, ct (by decide) (by decide) h6, fun z => absurd z (by decide), fun _ => ⟨fun z => absurd k0 z, fun _ => ⟨rfl, rfl, rfl⟩⟩⟩⟩⟩⟩⟩, fun z => absurd rfl z⟩, g_r_readLine_0 ⟨_, _, _, d1, fun _ => ⟨_, _, _, d2, fun _ => ⟨_, _, _, d3, fun _ => ⟨_, _, _, d4, fun _ => ⟨_, _, _, d5, fun _ => ⟨_, _, _, rt (by decide) (by decide) h6, fun z => absurd z (by decide), fun _ => ⟨_, _, X_mask m0 h38 (by rw [e17]; decide), rfl, rfl, rfl⟩⟩, fun z => absurd rfl z⟩, fun z => absurd rfl z⟩, fun z => absurd rfl z⟩, fun z => absurd rfl z⟩, fun z => absurd rfl z⟩, L5⟩
              · have c6 := cf (w := 6) (by decide) (by decide) h6
                have d6 := rf (w := 6) (by decide) (by decide) h6
                exact ⟨_, _, _, _, g_rd_takeLine_0 hb ⟨_, _, _, c1, fun _ => ⟨_, _, _, c2, fun z => absurd rfl z, fun _ => ⟨_, _, _, c3, fun z => absurd rfl z, fun _ => ⟨_, _, _, c4, fun z => absurd rfl z, fun _ => ⟨_, _, _, c5, fun z => absurd rfl z, fun _ => ⟨_, _, _, c6, fun _ => ⟨rfl, rfl, rfl⟩, fun z => absurd rfl z⟩⟩⟩⟩⟩, fun z => absurd rfl z⟩, g_r_readLine_0 ⟨_, _, _, d1, fun _ => ⟨_, _, _, d2, fun _ => ⟨_, _, _, d3, fun _ => ⟨_, _, _, d4, fun _ => ⟨_, _, _, d5, fun _ => ⟨_, _, _, d6, fun _ => ⟨fun z => absurd h38 z, fun _ => ⟨rfl, rfl, rfl⟩⟩, fun z => absurd rfl z⟩, fun z => absurd rfl z⟩, fun z => absurd rfl z⟩, fun z => absurd rfl z⟩, fun z => absurd rfl z⟩, fun z => absurd rfl z⟩, LR.fl (f := 1) A (by decide) (by decide)⟩
  · obtain ⟨N, eN, hN3, hN31, zN, tN⟩ := gN W.1 hr
    have n0 : ¬ mi db 0 = 0 := nN0 hN3 hN31 (P.1.1.trans zN)
    have n1 : ¬ mi db 0 ≤ 0 := by rw [P.1.1.trans zN, show (0 : Int32) = nI 0 from rfl, nI_leI (by omega) (by decide)]; omega
    have n2 : ¬ mj 48 13 ≤ 0 := by rw [R.1.trans zN, show (0 : Int32) = nI 0 from rfl, nI_leI (by omega) (by decide)]; omega
    by_cases h1 : isW t e a 1
    · exact ⟨_, _, _, _, g_rd_takeLine_0 hb ⟨_, _, _, ct (by decide) (by decide) h1, fun z => absurd z (by decide), fun _ => ⟨fun z => absurd z n1, fun _ => ⟨rfl, rfl, rfl⟩⟩⟩, g_r_readLine_0 ⟨_, _, _, rt (by decide) (by decide) h1, fun z => absurd z (by decide), fun _ => ⟨_, _, X_again n2 h38, rfl, rfl, rfl⟩⟩, LR.fl (f := 3) A (by decide) (by decide)⟩
    · have c1 := cf (w := 1) (by decide) (by decide) h1
      have d1 := rf (w := 1) (by decide) (by decide) h1
      by_cases h2 : isW t e a 2
      · obtain ⟨r, mi', mj', mk', C, D, L⟩ := L_light (nc := nc) (dc := dc) (c := c) (rs := rs) (ml := ml) hb he ht A h2.1 hr W P R
        have c2 := ct (w := 2) (by decide) (by decide) h2
        exact ⟨r, mi', mj', mk', g_rd_takeLine_0 hb ⟨_, _, _, c1, fun _ => ⟨_, _, _, c2, fun _ => ⟨fun _ => ⟨_, _, _, c2, fun z => absurd z (by decide), fun _ => ⟨_, _, _, C, L.b, rfl, rfl, rfl⟩⟩, fun z => absurd z n0⟩, fun z => absurd z (by decide)⟩, fun z => absurd rfl z⟩, g_r_readLine_0 ⟨_, _, _, d1, fun _ => ⟨_, _, _, rt (by decide) (by decide) h2, fun z => absurd z (by decide), fun _ => ⟨_, _, D, rfl, rfl, rfl⟩⟩, fun z => absurd rfl z⟩, L⟩
      · have c2 := cf (w := 2) (by decide) (by decide) h2
        have d2 := rf (w := 2) (by decide) (by decide) h2
        by_cases h3 : isW t e a 3
        · obtain ⟨r, mi', mj', mk', C, D, L⟩ := L_stuck (nc := nc) (dc := dc) (c := c) (rs := rs) (ml := ml) hb he ht A h3.1 hr W P R
          have c3 := ct (w := 3) (by decide) (by decide) h3
          exact ⟨r, mi', mj', mk', g_rd_takeLine_0 hb ⟨_, _, _, c1, fun _ => ⟨_, _, _, c2, fun z => absurd rfl z, fun _ => ⟨_, _, _, c3, fun _ => ⟨fun _ => ⟨_, _, _, c2, fun _ => ⟨_, _, _, c3, fun z => absurd z (by decide), fun _ => ⟨_, _, _, C, L.b, rfl, rfl, rfl⟩⟩, fun z => absurd rfl z⟩, fun z => absurd z n0⟩, fun z => absurd z (by decide)⟩⟩, fun z => absurd rfl z⟩, g_r_readLine_0 ⟨_, _, _, d1, fun _ => ⟨_, _, _, d2, fun _ => ⟨_, _, _, rt (by decide) (by decide) h3, fun z => absurd z (by decide), fun _ => ⟨_, _, D, rfl, rfl, rfl⟩⟩, fun z => absurd rfl z⟩, fun z => absurd rfl z⟩, L⟩
        · have c3 := cf (w := 3) (by decide) (by decide) h3
          have d3 := rf (w := 3) (by decide) (by decide) h3
          by_cases h4 : isW t e a 4
          · obtain ⟨r, mi', mj', mk', C, D, L⟩ := L_noise (nc := nc) (dc := dc) (c := c) (rs := rs) (ml := ml) hb he ht A h4.1 hr W P R
            have c4 := ct (w := 4) (by decide) (by decide) h4
            exact ⟨r, mi', mj', mk', g_rd_takeLine_0 hb ⟨_, _, _, c1, fun _ => ⟨_, _, _, c2, fun z => absurd rfl z, fun _ => ⟨_, _, _, c3, fun z => absurd rfl z, fun _ => ⟨_, _, _, c4, fun _ => ⟨fun _ => ⟨_, _, _, c2, fun _ => ⟨_, _, _, c3, fun _ => ⟨_, _, _, c4, fun z => absurd z (by decide), fun _ => ⟨_, _, _, C, L.b, rfl, rfl, rfl⟩⟩, fun z => absurd rfl z⟩, fun z => absurd rfl z⟩, fun z => absurd z n0⟩, fun z => absurd z (by decide)⟩⟩⟩, fun z => absurd rfl z⟩, g_r_readLine_0 ⟨_, _, _, d1, fun _ => ⟨_, _, _, d2, fun _ => ⟨_, _, _, d3, fun _ => ⟨_, _, _, rt (by decide) (by decide) h4, fun z => absurd z (by decide), fun _ => ⟨_, _, D, rfl, rfl, rfl⟩⟩, fun z => absurd rfl z⟩, fun z => absurd rfl z⟩, fun z => absurd rfl z⟩, L⟩
          · have c4 := cf (w := 4) (by decide) (by decide) h4
            have d4 := rf (w := 4) (by decide) (by decide) h4
            by_cases h5 : isW t e a 5
            · obtain ⟨r, mi', mj', mk', C, D, L⟩ := L_lost (nc := nc) (dc := dc) (c := c) (rs := rs) (ml := ml) hb he ht A h5.1 hr W P R
              have c5 := ct (w := 5) (by decide) (by decide) h5
              exact ⟨r, mi', mj', mk', g_rd_takeLine_0 hb ⟨_, _, _, c1, fun _ => ⟨_, _, _, c2, fun z => absurd rfl z, fun _ => ⟨_, _, _, c3, fun z => absurd rfl z, fun _ => ⟨_, _, _, c4, fun z => absurd rfl z, fun _ => ⟨_, _, _, c5, fun _ => ⟨fun _ => ⟨_, _, _, c2, fun _ => ⟨_, _, _, c3, fun _ => ⟨_, _, _, c4, fun _ => ⟨_, _, _, c5, fun z => absurd z (by decide), fun _ => ⟨_, _, _, C, L.b, rfl, rfl, rfl⟩⟩, fun z => absurd rfl z⟩, fun z => absurd rfl z⟩, fun z => absurd rfl z⟩, fun z => absurd z n0⟩, fun z => absurd z (by decide)⟩⟩⟩⟩, fun z => absurd rfl z⟩, g_r_readLine_0 ⟨_, _, _, d1, fun _ => ⟨_, _, _, d2, fun _ => ⟨_, _, _, d3, fun _ => ⟨_, _, _, d4, fun _ => ⟨_, _, _, rt (by decide) (by decide) h5, fun z => absurd z (by decide), fun _ => ⟨_, _, D, rfl, rfl, rfl⟩⟩, fun z => absurd rfl z⟩, fun z => absurd rfl z⟩, fun z => absurd rfl z⟩, fun z => absurd rfl z⟩, L⟩
            · have c5 := cf (w := 5) (by decide) (by decide) h5
              have d5 := rf (w := 5) (by decide) (by decide) h5
              by_cases h6 : isW t e a 6
              · obtain ⟨r, mi', mj', mk', C, D, L⟩ := L_mask (nc := nc) (dc := dc) (c := c) (rs := rs) (ml := ml) hb he ht A h6.1 hr W P R
                have c6 := ct (w := 6) (by decide) (by decide) h6
                exact ⟨r, mi', mj', mk', g_rd_takeLine_0 hb ⟨_, _, _, c1, fun _ => ⟨_, _, _, c2, fun z => absurd rfl z, fun _ => ⟨_, _, _, c3, fun z => absurd rfl z, fun _ => ⟨_, _, _, c4, fun z => absurd rfl z, fun _ => ⟨_, _, _, c5, fun z => absurd rfl z, fun _ => ⟨_, _, _, c6, fun z => absurd z (by decide), fun _ => ⟨fun _ => ⟨_, _, _, c2, fun _ => ⟨_, _, _, c3, fun _ => ⟨_, _, _, c4, fun _ => ⟨_, _, _, c5, fun _ => ⟨_, _, _, C, L.b, rfl, rfl, rfl⟩, fun z => absurd rfl z⟩, fun z => absurd rfl z⟩, fun z => absurd rfl z⟩, fun z => absurd rfl z⟩, fun z => absurd z n0⟩⟩⟩⟩⟩⟩, fun z => absurd rfl z⟩, g_r_readLine_0 ⟨_, _, _, d1, fun _ => ⟨_, _, _, d2, fun _ => ⟨_, _, _, d3, fun _ => ⟨_, _, _, d4, fun _ => ⟨_, _, _, d5, fun _ => ⟨_, _, _, rt (by decide) (by decide) h6, fun z => absurd z (by decide), fun _ => ⟨_, _, D, rfl, rfl, rfl⟩⟩, fun z => absurd rfl z⟩, fun z => absurd rfl z⟩, fun z => absurd rfl z⟩, fun z => absurd rfl z⟩, fun z => absurd rfl z⟩, L⟩
              · have c6 := cf (w := 6) (by decide) (by decide) h6
                have d6 := rf (w := 6) (by decide) (by decide) h6
                exact ⟨_, _, _, _, g_rd_takeLine_0 hb ⟨_, _, _, c1, fun _ => ⟨_, _, _, c2, fun z => absurd rfl z, fun _ => ⟨_, _, _, c3, fun z => absurd rfl z, fun _ => ⟨_, _, _, c4, fun z => absurd rfl z, fun _ => ⟨_, _, _, c5, fun z => absurd rfl z, fun _ => ⟨_, _, _, c6, fun _ => ⟨rfl, rfl, rfl⟩, fun z => absurd rfl z⟩⟩⟩⟩⟩, fun z => absurd rfl z⟩, g_r_readLine_0 ⟨_, _, _, d1, fun _ => ⟨_, _, _, d2, fun _ => ⟨_, _, _, d3, fun _ => ⟨_, _, _, d4, fun _ => ⟨_, _, _, d5, fun _ => ⟨_, _, _, d6, fun _ => ⟨fun z => absurd h38 z, fun _ => ⟨rfl, rfl, rfl⟩⟩, fun z => absurd rfl z⟩, fun z => absurd rfl z⟩, fun z => absurd rfl z⟩, fun z => absurd rfl z⟩, fun z => absurd rfl z⟩, fun z => absurd rfl z⟩, LR.fl (f := 1) A (by decide) (by decide)⟩
end
