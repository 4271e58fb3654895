/-! ===== dark and top, on both sides ===== -/
section
variable {nb db nc dc : Nat} {by_ rs : RX} {c : Nat} {mi mj : MI} {ml mk : ML} {t : Nat → Nat} {e p a w f : Nat} {x y z : Int32}
theorem J_tail (hd : db = 5 ∨ db = 43) (he : e ≤ 800) (ht : ∀ k, t k ≤ 255) (A : AT t e a mi mj mk) :
    ∃ v6 v8 mj5 mk5 mj6 mk6 mj7 mk7 mj8 mk8, Ret m_r_needs [vR 19 0 48, vR 100 0 9] none c (MRc nc dc (some (0, 800, 3)) rs) mj mk mj5 mk5 ∧ Ret m_r_readWhole [vR 19 0 48, vI (nI 0), vI (nI 999)] (some (vI v6)) c (MRc nc dc (some (0, 800, 3)) rs) mj5 mk5 mj6 mk6 ∧ Ret m_r_needs [vR 19 0 48, vR 100 0 10] none c (MRc nc dc (some (0, 800, 3)) rs) mj6 mk6 mj7 mk7 ∧ Ret m_r_readWhole [vR 19 0 48, vI (nI 1), vI (nI 999999)] (some (vI v8)) c (MRc nc dc (some (0, 800, 3)) rs) mj7 mk7 mj8 mk8 ∧ FSr mj mj8 mk mk8 ∧
    ((∃ mi5 mi6 mi7 mi8 dk tp a', Ret m_rd_takeWord [vR 12 0 4, vR 100 0 9] (some (vI (nI 1))) c (MRc nb db (some (0, 800, 3)) rs) mi ml mi5 ml ∧ Ret m_rd_takeWhole [vR 12 0 4, vI (nI 0), vI (nI 999)] (some (vI (nI 1))) c (MRc nb db (some (0, 800, 3)) rs) mi5 ml mi6 ml ∧ Ret m_rd_takeWord [vR 12 0 4, vR 100 0 10] (some (vI (nI 1))) c (MRc nb db (some (0, 800, 3)) rs) (u2 mi6 db 2 (mi6 4 9)) ml mi7 ml ∧ Ret m_rd_takeWhole [vR 12 0 4, vI (nI 1), vI (nI 999999)] (some (vI (nI 1))) c (MRc nb db (some (0, 800, 3)) rs) mi7 ml mi8 ml ∧ v6 = nI dk ∧ v8 = nI tp ∧ mi6 4 9 = nI dk ∧ mi8 4 9 = nI tp ∧ dk ≤ 999 ∧ 1 ≤ tp ∧ tp ≤ 999999 ∧ a < a' ∧ AT t e a' mi8 mj8 mk8 ∧ FSc (u2 mi db 2 (nI dk)) mi8) ∨
     (∃ f a' mf, DD f a' mf mj8 ∧ FLc db mi mf ∧ (Ret m_rd_takeWord [vR 12 0 4, vR 100 0 9] (some (vI (nI 0))) c (MRc nb db (some (0, 800, 3)) rs) mi ml mf ml ∨ (∃ mi5, Ret m_rd_takeWord [vR 12 0 4, vR 100 0 9] (some (vI (nI 1))) c (MRc nb db (some (0, 800, 3)) rs) mi ml mi5 ml ∧ (Ret m_rd_takeWhole [vR 12 0 4, vI (nI 0), vI (nI 999)] (some (vI (nI 0))) c (MRc nb db (some (0, 800, 3)) rs) mi5 ml mf ml ∨ (∃ mi6, Ret m_rd_takeWhole [vR 12 0 4, vI (nI 0), vI (nI 999)] (some (vI (nI 1))) c (MRc nb db (some (0, 800, 3)) rs) mi5 ml mi6 ml ∧ (Ret m_rd_takeWord [vR 12 0 4, vR 100 0 10] (some (vI (nI 0))) c (MRc nb db (some (0, 800, 3)) rs) (u2 mi6 db 2 (mi6 4 9)) ml mf ml ∨ (∃ mi7, Ret m_rd_takeWord [vR 12 0 4, vR 100 0 10] (some (vI (nI 1))) c (MRc nb db (some (0, 800, 3)) rs) (u2 mi6 db 2 (mi6 4 9)) ml mi7 ml ∧ Ret m_rd_takeWhole [vR 12 0 4, vI (nI 1), vI (nI 999999)] (some (vI (nI 0))) c (MRc nb db (some (0, 800, 3)) rs) mi7 ml mf ml)))))))) := by
  obtain ⟨r5, mi5, mj5, mk5, c5, d5, f5, g5, Q5⟩ := J_word (nc := nc) (dc := dc) (nb := nb) (db := db) (c := c) (rs := rs) (ml := ml) (w := 9) he ht A (by decide) (by decide)
  rcases Q5 with ⟨er5, w5, -, A5⟩ | ⟨er5, f, D5⟩
  · subst er5
    have n5 := nxA_in (t := t) (tk_word w5.1).1
    obtain ⟨r6, v6, mi6, mj6, mk6, c6, d6, f6, g6, Q6⟩ := J_whole (nc := nc) (dc := dc) (nb := nb) (db := db) (c := c) (rs := rs) (ml := ml) he ht (lo := 0) (hi := 999) (by decide) (by decide) A5
    rcases Q6 with ⟨er6, ae6, ⟨dk, -, hdk, ev6, e96⟩, A6⟩ | ⟨er6, f, D6⟩
    · subst er6 ev6
      have n6 := nxA_in (t := t) ae6
      obtain ⟨r7, mi7, mj7, mk7, c7, d7, f7, g7, Q7⟩ := J_word (nc := nc) (dc := dc) (nb := nb) (db := db) (c := c) (rs := rs) (ml := ml) (w := 10) he ht (A6.co (j := db) (k := 2) (mi6 4 9) (by omega) (by omega)) (by decide) (by decide)
      have F6 : FLc db mi (u2 mi6 db 2 (mi6 4 9)) := ((f5.l).tr f6.l).tr (FLc.d _ (by omega) hd)
      rcases Q7 with ⟨er7, w7, -, A7⟩ | ⟨er7, f, D7⟩
      · subst er7
        have n7 := nxA_in (t := t) (tk_word w7.1).1
        obtain ⟨r8, v8, mi8, mj8, mk8, c8, d8, f8, g8, Q8⟩ := J_whole (nc := nc) (dc := dc) (nb := nb) (db := db) (c := c) (rs := rs) (ml := ml) he ht (lo := 1) (hi := 999999) (by decide) (by decide) A7
        rcases Q8 with ⟨er8, ae8, ⟨tp, htp1, htp, ev8, e98⟩, A8⟩ | ⟨er8, f, D8⟩
        · subst er8 ev8
          have n8 := nxA_in (t := t) ae8
          refine ⟨nI dk, nI tp, mj5, mk5, mj6, mk6, mj7, mk7, mj8, mk8, d5, d6, d7, d8, ((g5.tr g6).tr g7).tr g8, Or.inl ⟨mi5, mi6, mi7, mi8, dk, tp, nxA t e (nxA t e (nxA t e (nxA t e a))), c5, c6, c7, c8, rfl, rfl, e96, e98, hdk, htp1, htp, by omega, A8, ?_⟩⟩
          have h56 := f5.tr f6
          have h78 := f7.tr f8
          refine ⟨fun b hb => ?_, fun k hk => ?_⟩
          · rw [h78.1 b hb]
            funext q
            rw [u2_if, u2_if, e96, h56.1 b hb]
          · rw [h78.2 k hk, u2_ne2 _ _ (Or.inl (by omega)), u2_ne2 _ _ (Or.inl (by omega)), h56.2 k hk]
        · subst er8
          exact ⟨nI dk, v8, mj5, mk5, mj6, mk6, mj7, mk7, mj8, mk8, d5, d6, d7, d8, ((g5.tr g6).tr g7).tr g8, Or.inr ⟨f, _, mi8, D8, (F6.tr f7.l).tr f8.l, Or.inr ⟨mi5, c5, Or.inr ⟨mi6, c6, Or.inr ⟨mi7, c7, c8⟩⟩⟩⟩⟩
      · subst er7
        exact ⟨nI dk, _, mj5, mk5, mj6, mk6, mj7, mk7, mj7, mk7, d5, d6, d7, D_readWhole D7.2.2.1 _ _, (g5.tr g6).tr g7, Or.inr ⟨f, _, mi7, D7, F6.tr f7.l, Or.inr ⟨mi5, c5, Or.inr ⟨mi6, c6, Or.inl c7⟩⟩⟩⟩
    · subst er6
      exact ⟨v6, _, mj5, mk5, mj6, mk6, mj6, mk6, mj6, mk6, d5, d6, D_needs D6.2.2.1 (by decide) (by decide), D_readWhole D6.2.2.1 _ _, g5.tr g6, Or.inr ⟨f, _, mi6, D6, (f5.l).tr f6.l, Or.inr ⟨mi5, c5, Or.inl c6⟩⟩⟩
  · subst er5
    exact ⟨_, _, mj5, mk5, mj5, mk5, mj5, mk5, mj5, mk5, d5, D_readWhole D5.2.2.1 _ _, D_needs D5.2.2.1 (by decide) (by decide), D_readWhole D5.2.2.1 _ _, g5, Or.inr ⟨f, _, mi5, D5, f5.l, Or.inl c5⟩⟩
end
