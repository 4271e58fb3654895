/-! ===== suspects: the reference, one suspect; the calls ===== -/
section
variable {nb db b : Nat} {by_ rs : RX} {c : Nat} {σ : SG} {mi mj : MI} {ml mk : ML} {x j : Int32}
theorem xQ_bd (hW : WF σ) {q : Nat} : ∀ k : Nat, (k : Int) < σ 0 5 → -200000000000 ≤ xQ σ q k ∧ xQ σ q k ≤ 200000000000 := fun k hk => by
  have n := hW.nn
  have b1 := back_bd hW k
  have b2 := back_bd hW ((q - 1) / 2)
  have b3 := xB_bd hW k
  have b4 := sxB_bd hW (σ 0 5).toNat (by omega)
  have b5 := mon_bd hW
  have t1 := tdiv_b (u := backZ σ k) (d := 2) (B := 1830006198) (by decide) ⟨by omega, by omega⟩
  have t2 := tdiv_b (u := backZ σ k - backZ σ ((q - 1) / 2)) (d := σ 0 5 + 1) (B := 3660012396) (by omega) ⟨by omega, by omega⟩
  unfold xQ
  split
  · omega
  · split
    · split <;> omega
    · split <;> omega
theorem R_isSusp (S : SR σ mj) {q : Nat} (hq : (q : Int) ≤ 2 * σ 0 5) {a : Int32} (ha : a = nI q) : ∃ m', F61 mk m' ∧ ((SP σ q ∧ Ret m_r_isSuspect [vR 19 0 48, vI a] (some (vI (nI 1))) c (MRc nb db by_ rs) mj mk mj m' ∧ ∀ k : Nat, (k : Int) < σ 0 5 → m' 61 k = zL (xQ σ q k)) ∨ (¬ SP σ q ∧ Ret m_r_isSuspect [vR 19 0 48, vI a] (some (vI (nI 0))) c (MRc nb db by_ rs) mj mk mj m')) := by
  have S' := S
  obtain ⟨⟨hW, hs, hB, hr, hR⟩, hl0, -⟩ := S
  obtain ⟨n, hn, h31⟩ := wf_n hW
  have nd := hW.nn
  have fin : ∀ (m : ML) (o s : Int32), Dv σ q → (∀ k : Nat, (k : Int) < σ 0 5 → m 61 k = zL (xQ σ q k)) → ((q = 0 ∧ o = nI 0 ∧ s = nI 0) ∨ (q % 2 = 1 ∧ (q - 1) / 2 < 31 ∧ o = nI (2 ^ ((q - 1) / 2)) ∧ s = nI 0) ∨ (q ≠ 0 ∧ q % 2 = 0 ∧ (q - 1) / 2 < 31 ∧ o = nI 0 ∧ s = nI (2 ^ ((q - 1) / 2)))) →
      (SP σ q ∧ Ret m_r_areLights [vR 19 0 48] (some (vI (nI 1))) c (MRc nb db by_ rs) mj m mj m ∧ Ret m_r_areSeen [vR 19 0 48, vI o, vI s] (some (vI (nI 1))) c (MRc nb db by_ rs) mj m mj m) ∨ (¬ SP σ q ∧ (Ret m_r_areLights [vR 19 0 48] (some (vI (nI 0))) c (MRc nb db by_ rs) mj m mj m ∨ (Ret m_r_areLights [vR 19 0 48] (some (vI (nI 1))) c (MRc nb db by_ rs) mj m mj m ∧ Ret m_r_areSeen [vR 19 0 48, vI o, vI s] (some (vI (nI 0))) c (MRc nb db by_ rs) mj m mj m))) := by
    intro m o s hD hv ho
    rcases M_lights (nb := nb) (db := db) (by_ := by_) (rs := rs) (c := c) S' hv (xQ_bd hW) with ⟨s1, s2⟩ | ⟨s1, s2⟩
    · have pi := pls_iff hW hr hl0 hq hD
      rcases M_seen (nb := nb) (db := db) (by_ := by_) (rs := rs) (c := c) S' hv s1.1 ho with ⟨l1, l2⟩ | ⟨l1, l2⟩
      · exact Or.inl ⟨⟨hD, s1.1, s1.2, pi.mp (fun i hi => l1.1 i hi), (lg_iff (fun _ _ => rfl)).mp l1.2⟩, s2, l2⟩
      · exact Or.inr ⟨fun z => l1 ⟨fun i hi => pi.mpr z.2.2.2.1 i hi, (lg_iff (fun _ _ => rfl)).mpr z.2.2.2.2⟩, Or.inr ⟨s2, l2⟩⟩
    · exact Or.inr ⟨fun z => s1 ⟨z.2.1, z.2.2.1⟩, Or.inl s2⟩
  by_cases hq0 : q = 0
  · have ha0 : a = 0 := by rw [ha, hq0]; rfl
    have eD : Dv σ q ↔ ∀ k : Nat, (k : Int) < σ 0 5 → (backZ σ k).tmod (σ 0 5 + 1) = 0 := by
      unfold Dv
      constructor
      · intro h k hk; have := h k hk; rw [if_pos hq0] at this; exact this
      · intro h k hk; rw [if_pos hq0]; exact h k hk
    obtain ⟨m', f1, f2, f3⟩ := M_fine (nb := nb) (db := db) (by_ := by_) (rs := rs) (c := c) (mk := mk) S'
    have hv : ∀ k : Nat, (k : Int) < σ 0 5 → m' 61 k = zL (xQ σ q k) := fun k hk => by rw [f2 k hk]; unfold xQ; rw [if_pos hq0]
    rcases f3 with ⟨g1, g2⟩ | ⟨g1, g2⟩
    · rcases fin m' (nI 0) (nI 0) (eD.mpr g1) hv (Or.inl ⟨hq0, rfl, rfl⟩) with ⟨p1, p2, p3⟩ | ⟨p1, p2 | ⟨p2, p3⟩⟩
      · exact ⟨m', f1, Or.inl ⟨p1, g_r_isSuspect_0 ⟨fun g => absurd ha0 g, fun _ => ⟨_, _, _, g2, fun g => absurd g n10, fun _ => ⟨_, p2, fun g => absurd g n10, fun _ => ⟨_, p3, fun g => absurd g n10, fun _ => ⟨rfl, rfl, rfl⟩⟩⟩⟩⟩, hv⟩⟩
      · exact ⟨m', f1, Or.inr ⟨p1, g_r_isSuspect_0 ⟨fun g => absurd ha0 g, fun _ => ⟨_, _, _, g2, fun g => absurd g n10, fun _ => ⟨_, p2, fun _ => ⟨rfl, rfl, rfl⟩, fun g => absurd rfl g⟩⟩⟩⟩⟩
      · exact ⟨m', f1, Or.inr ⟨p1, g_r_isSuspect_0 ⟨fun g => absurd ha0 g, fun _ => ⟨_, _, _, g2, fun g => absurd g n10, fun _ => ⟨_, p2, fun g => absurd g n10, fun _ => ⟨_, p3, fun _ => ⟨rfl, rfl, rfl⟩, fun g => absurd rfl g⟩⟩⟩⟩⟩⟩
    · exact ⟨m', f1, Or.inr ⟨fun z => g1 (eD.mp z.1), g_r_isSuspect_0 ⟨fun g => absurd ha0 g, fun _ => ⟨_, _, _, g2, fun _ => ⟨rfl, rfl, rfl⟩, fun g => absurd rfl g⟩⟩⟩⟩
  · obtain ⟨j, ej⟩ : ∃ j, (q - 1) / 2 = j := ⟨_, rfl⟩
    have hj : j < n := by omega
    obtain ⟨t1, t2, -, t3⟩ := two_h ha hq0 (by omega)
    rw [ej] at t1
    have sh1 : nI 1 <<< ((a - nI 1) / nI 2 &&& 31) = nI (2 ^ ((q - 1) / 2)) := by
      have := p2_lt (show j < 31 by omega)
      rw [t1, shl_n rfl rfl (by omega) (by omega), Nat.one_mul, ej]
    by_cases ho : q % 2 = 1
    · have eD : Dv σ q ↔ ∀ k : Nat, (k : Int) < σ 0 5 → dvO σ j k := by
        unfold Dv dvO
        constructor
        · intro h k hk; have := h k hk; rw [if_neg hq0, if_pos ho, ej] at this; exact this
        · intro h k hk; rw [if_neg hq0, if_pos ho, ej]; exact h k hk
      obtain ⟨m', f1, f2⟩ := M_open (nb := nb) (db := db) (by_ := by_) (rs := rs) (c := c) (mk := mk) S' t1 (by omega)
      rcases f2 with ⟨g1, g3, g2⟩ | ⟨g1, g2⟩
      · have hv : ∀ k : Nat, (k : Int) < σ 0 5 → m' 61 k = zL (xQ σ q k) := fun k hk => by
          rw [g3 k hk]; unfold xQ xO; rw [if_neg hq0, if_pos ho, ej]
        rcases fin m' (nI 1 <<< ((a - nI 1) / nI 2 &&& 31)) (nI 0) (eD.mpr g1) hv (Or.inr (Or.inl ⟨ho, by omega, sh1, rfl⟩)) with ⟨p1, p2, p3⟩ | ⟨p1, p2 | ⟨p2, p3⟩⟩
        · exact ⟨m', f1, Or.inl ⟨p1, g_r_isSuspect_0 ⟨fun _ => ⟨fun g => absurd (t3.mpr ho) g, fun _ => ⟨_, _, _, g2, fun g => absurd g n10, fun _ => ⟨_, p2, fun g => absurd g n10, fun _ => ⟨_, p3, fun g => absurd g n10, fun _ => ⟨rfl, rfl, rfl⟩⟩⟩⟩⟩, fun g => absurd g t2⟩, hv⟩⟩
        · exact ⟨m', f1, Or.inr ⟨p1, g_r_isSuspect_0 ⟨fun _ => ⟨fun g => absurd (t3.mpr ho) g, fun _ => ⟨_, _, _, g2, fun g => absurd g n10, fun _ => ⟨_, p2, fun _ => ⟨rfl, rfl, rfl⟩, fun g => absurd rfl g⟩⟩⟩, fun g => absurd g t2⟩⟩⟩
        · exact ⟨m', f1, Or.inr ⟨p1, g_r_isSuspect_0 ⟨fun _ => ⟨fun g => absurd (t3.mpr ho) g, fun _ => ⟨_, _, _, g2, fun g => absurd g n10, fun _ => ⟨_, p2, fun g => absurd g n10, fun _ => ⟨_, p3, fun _ => ⟨rfl, rfl, rfl⟩, fun g => absurd rfl g⟩⟩⟩⟩, fun g => absurd g t2⟩⟩⟩
      · exact ⟨m', f1, Or.inr ⟨fun z => g1 (eD.mp z.1), g_r_isSuspect_0 ⟨fun _ => ⟨fun g => absurd (t3.mpr ho) g, fun _ => ⟨_, _, _, g2, fun _ => ⟨rfl, rfl, rfl⟩, fun g => absurd rfl g⟩⟩, fun g => absurd g t2⟩⟩⟩
    · have eD : Dv σ q ↔ ∀ k : Nat, (k : Int) < σ 0 5 → (backZ σ k).tmod (σ 0 5 + 1) = 0 := by
        unfold Dv
        constructor
        · intro h k hk; have := h k hk; rw [if_neg hq0, if_neg ho] at this; exact this
        · intro h k hk; rw [if_neg hq0, if_neg ho]; exact h k hk
      obtain ⟨m', f1, f2, f3⟩ := M_shut (nb := nb) (db := db) (by_ := by_) (rs := rs) (c := c) (mk := mk) S' t1 (by omega)
      have hv : ∀ k : Nat, (k : Int) < σ 0 5 → m' 61 k = zL (xQ σ q k) := fun k hk => by
        rw [f2 k hk]; unfold xQ; rw [if_neg hq0, if_neg ho, ej]
      rcases f3 with ⟨g1, g2⟩ | ⟨g1, g2⟩
      · rcases fin m' (nI 0) (nI 1 <<< ((a - nI 1) / nI 2 &&& 31)) (eD.mpr g1) hv (Or.inr (Or.inr ⟨hq0, by omega, by omega, rfl, sh1⟩)) with ⟨p1, p2, p3⟩ | ⟨p1, p2 | ⟨p2, p3⟩⟩
        · exact ⟨m', f1, Or.inl ⟨p1, g_r_isSuspect_0 ⟨fun _ => ⟨fun _ => ⟨_, _, _, g2, fun g => absurd g n10, fun _ => ⟨_, p2, fun g => absurd g n10, fun _ => ⟨_, p3, fun g => absurd g n10, fun _ => ⟨rfl, rfl, rfl⟩⟩⟩⟩, fun g => absurd (t3.mp g) ho⟩, fun g => absurd g t2⟩, hv⟩⟩
        · exact ⟨m', f1, Or.inr ⟨p1, g_r_isSuspect_0 ⟨fun _ => ⟨fun _ => ⟨_, _, _, g2, fun g => absurd g n10, fun _ => ⟨_, p2, fun _ => ⟨rfl, rfl, rfl⟩, fun g => absurd rfl g⟩⟩, fun g => absurd (t3.mp g) ho⟩, fun g => absurd g t2⟩⟩⟩
        · exact ⟨m', f1, Or.inr ⟨p1, g_r_isSuspect_0 ⟨fun _ => ⟨fun _ => ⟨_, _, _, g2, fun g => absurd g n10, fun _ => ⟨_, p2, fun g => absurd g n10, fun _ => ⟨_, p3, fun _ => ⟨rfl, rfl, rfl⟩, fun g => absurd rfl g⟩⟩⟩, fun g => absurd (t3.mp g) ho⟩, fun g => absurd g t2⟩⟩⟩
      · exact ⟨m', f1, Or.inr ⟨fun z => g1 (eD.mp z.1), g_r_isSuspect_0 ⟨fun _ => ⟨fun _ => ⟨_, _, _, g2, fun _ => ⟨rfl, rfl, rfl⟩, fun g => absurd rfl g⟩, fun g => absurd (t3.mp g) ho⟩, fun g => absurd g t2⟩⟩⟩
end
/-- how many suspects ahead of q -/
noncomputable def cS (σ : SG) : Nat → Nat
  | 0 => 0
  | q + 1 => cS σ q + @ite Nat (SP σ q) (Classical.propDecidable _) 1 0
theorem cS_t {σ : SG} {q : Nat} (h : SP σ q) : cS σ (q + 1) = cS σ q + 1 := by
  show cS σ q + @ite Nat (SP σ q) (Classical.propDecidable _) 1 0 = _
  rw [if_pos h]
theorem cS_f {σ : SG} {q : Nat} (h : ¬ SP σ q) : cS σ (q + 1) = cS σ q := by
  show cS σ q + @ite Nat (SP σ q) (Classical.propDecidable _) 1 0 = _
  rw [if_neg h]; rfl
theorem cS_le (σ : SG) : ∀ q, cS σ q ≤ q
  | 0 => Nat.le_refl _
  | q + 1 => by
    have := cS_le σ q
    by_cases h : SP σ q
    · rw [cS_t h]; omega
    · rw [cS_f h]; omega
section
variable {nb db b : Nat} {by_ rs : RX} {c : Nat} {σ : SG} {mi mj : MI} {ml mk : ML} {x j : Int32}
theorem end2 {m l : Int32} {n q : Nat} (hm : m = nI n) (hl : l = nI q) (hn : n ≤ 31) (hq : q ≤ 100) : nI 2 * m < l ↔ 2 * n < q := by
  have e : nI 2 * m = nI (2 * n) := by rw [hm, nI_z, nI_z, zI_mul, nI_z]; rfl
  rw [e, hl, nI_ltI (by omega) (by omega)]
theorem R_count (hbb : b = 43 ∨ b = 5) (S : SU σ b mi ml) {n : Nat} (hn : σ 0 5 = n) : ∃ m', F18 mi m' ∧ Ret m_su_count [vR 15 0 17, vR 13 0 b, vR 14 0 11] (some (vI (nI (cS σ (2 * n + 1))))) c (MRc nb db by_ rs) mi ml m' ml := by
  have S' := S
  have h31 : n ≤ 31 := by have := S.1.nn; omega
  have key : ∀ q, q ≤ 2 * n + 1 → ∀ (i a : Int32) (m : MI), i = nI q → a = nI (cS σ q) → F18 mi m → ∃ m', F18 mi m' ∧ Go m_su_count 5 [some (vR 15 0 17), some (vR 13 0 b), some (vR 14 0 11), some (vI a), some (vI i)] [] (some (vI (nI (cS σ (2 * n + 1))))) c (MRc nb db by_ rs) m ml m' ml := by
    refine upto ?_ ?_
    · intro i a m hi ha hm
      have hc := (hm.B hbb S'.2.2.1).n hn
      exact ⟨m, hm, g_su_count_5 hbb ⟨fun _ => ⟨by rw [ha], rfl, rfl⟩, fun g => absurd ((end2 hc hi h31 (by omega)).mpr (by omega)) g⟩⟩
    · intro q hq ih i a m hi ha hm
      have hc := (hm.B hbb S'.2.2.1).n hn
      have hk := cS_le σ q
      obtain ⟨m1, f1, f2⟩ := R_holds (nb := nb) (db := db) (by_ := by_) (rs := rs) (c := c) hbb (S'.fr hbb hm) (q := q) (by omega) hi
      have f1' : F18 mi m1 := fun a ha => (f1 a ha).trans (hm a ha)
      rcases f2 with ⟨g1, g2, -⟩ | ⟨g1, g2⟩
      · obtain ⟨m', p1, p2⟩ := ih (i + nI 1) (a + nI 1) m1 (inc hi) (by rw [inc ha, cS_t g1]) f1'
        exact ⟨m', p1, g_su_count_5 hbb ⟨fun g => absurd ((end2 hc hi h31 (by omega)).mp g) (by omega), fun _ => ⟨_, _, _, g2, fun g => absurd g n10, fun _ => p2⟩⟩⟩
      · obtain ⟨m', p1, p2⟩ := ih (i + nI 1) a m1 (inc hi) (by rw [ha, cS_f g1]) f1'
        exact ⟨m', p1, g_su_count_5 hbb ⟨fun g => absurd ((end2 hc hi h31 (by omega)).mp g) (by omega), fun _ => ⟨_, _, _, g2, fun _ => p2, fun g => absurd rfl g⟩⟩⟩
  obtain ⟨m', p1, p2⟩ := key 0 (by omega) _ _ mi rfl rfl (fun _ _ => rfl)
  exact ⟨m', p1, g_su_count_0 hbb p2⟩
/-- the number q of the I-th suspect; none -/
theorem R_numC (hbb : b = 43 ∨ b = 5) (S : SU σ b mi ml) {n : Nat} (hn : σ 0 5 = n) {a : Int32} {I : Nat} (hI : ∀ m : Nat, m ≤ 63 → (nI m = a ↔ m = I)) : (∃ q m', q ≤ 2 * n ∧ SP σ q ∧ cS σ q = I ∧ F18 mi m' ∧ Ret m_su_numberOf [vR 15 0 17, vI a, vR 13 0 b, vR 14 0 11] (some (vI (nI q))) c (MRc nb db by_ rs) mi ml m' ml ∧ ∀ k : Nat, (k : Int) < σ 0 5 → m' 18 k = zI (xQ σ q k)) ∨ ((∀ q, q ≤ 2 * n → SP σ q → cS σ q ≠ I) ∧ ∃ m', F18 mi m' ∧ Ret m_su_numberOf [vR 15 0 17, vI a, vR 13 0 b, vR 14 0 11] (some (vI (-(nI 1)))) c (MRc nb db by_ rs) mi ml m' ml) := by
  have S' := S
  have h31 : n ≤ 31 := by have := S.1.nn; omega
  have key : ∀ q, q ≤ 2 * n + 1 → ∀ (i l : Int32) (m : MI), i = nI q → l = nI (cS σ q) → F18 mi m → (∃ q' m', q ≤ q' ∧ q' ≤ 2 * n ∧ SP σ q' ∧ cS σ q' = I ∧ F18 mi m' ∧ Go m_su_numberOf 6 [some (vR 15 0 17), some (vI a), some (vR 13 0 b), some (vR 14 0 11), some (vI l), some (vI i)] [] (some (vI (nI q'))) c (MRc nb db by_ rs) m ml m' ml ∧ ∀ k : Nat, (k : Int) < σ 0 5 → m' 18 k = zI (xQ σ q' k)) ∨ ((∀ q', q ≤ q' → q' ≤ 2 * n → SP σ q' → cS σ q' ≠ I) ∧ ∃ m', F18 mi m' ∧ Go m_su_numberOf 6 [some (vR 15 0 17), some (vI a), some (vR 13 0 b), some (vR 14 0 11), some (vI l), some (vI i)] [] (some (vI (-(nI 1)))) c (MRc nb db by_ rs) m ml m' ml) := by
    refine upto ?_ ?_
    · intro i l m hi hl hm
      have hc := (hm.B hbb S'.2.2.1).n hn
      exact Or.inr ⟨fun q' h1 h2 => by omega, m, hm, g_su_numberOf_6 hbb ⟨fun _ => ⟨rfl, rfl, rfl⟩, fun g => absurd ((end2 hc hi h31 (by omega)).mpr (by omega)) g⟩⟩
    · intro q hq ih i l m hi hl hm
      have hc := (hm.B hbb S'.2.2.1).n hn
      have hk := cS_le σ q
      have ec : l = a ↔ cS σ q = I := by rw [hl]; exact hI _ (by omega)
      obtain ⟨m1, f1, f2⟩ := R_holds (nb := nb) (db := db) (by_ := by_) (rs := rs) (c := c) hbb (S'.fr hbb hm) (q := q) (by omega) hi
      have f1' : F18 mi m1 := fun a ha => (f1 a ha).trans (hm a ha)
      have nend : ¬ nI 2 * m b 0 < i := fun g => absurd ((end2 hc hi h31 (by omega)).mp g) (by omega)
      rcases f2 with ⟨g1, g2, g3⟩ | ⟨g1, g2⟩
      · by_cases h : cS σ q = I
        · exact Or.inl ⟨q, m1, Nat.le_refl _, by omega, g1, h, f1', g_su_numberOf_6 hbb ⟨fun g => absurd g nend, fun _ => ⟨_, _, _, g2, fun g => absurd g n10, fun _ => ⟨fun g => absurd (ec.mpr h) g, fun _ => ⟨by rw [hi], rfl, rfl⟩⟩⟩⟩, g3⟩
        · have st : ∀ r m', Go m_su_numberOf 6 [some (vR 15 0 17), some (vI a), some (vR 13 0 b), some (vR 14 0 11), some (vI (l + nI 1)), some (vI (i + nI 1))] [] r c (MRc nb db by_ rs) m1 ml m' ml → Go m_su_numberOf 6 [some (vR 15 0 17), some (vI a), some (vR 13 0 b), some (vR 14 0 11), some (vI l), some (vI i)] [] r c (MRc nb db by_ rs) m ml m' ml := fun r m' G =>
            g_su_numberOf_6 hbb ⟨fun g => absurd g nend, fun _ => ⟨_, _, _, g2, fun g => absurd g n10, fun _ => ⟨fun _ => G, fun g => absurd (ec.mp g) h⟩⟩⟩
          rcases ih (i + nI 1) (l + nI 1) m1 (inc hi) (by rw [inc hl, cS_t g1]) f1' with ⟨q', m', b1, b2, b3, b4, b5, b6, b7⟩ | ⟨b1, m', b2, b3⟩
          · exact Or.inl ⟨q', m', by omega, b2, b3, b4, b5, st _ _ b6, b7⟩
          · refine Or.inr ⟨fun q' h1 h2 h3 => ?_, m', b2, st _ _ b3⟩
            rcases Nat.lt_or_ge q q' with z | z
            · exact b1 q' (by omega) h2 h3
            · rw [show q' = q by omega]; exact h
      · have st : ∀ r m', Go m_su_numberOf 6 [some (vR 15 0 17), some (vI a), some (vR 13 0 b), some (vR 14 0 11), some (vI l), some (vI (i + nI 1))] [] r c (MRc nb db by_ rs) m1 ml m' ml → Go m_su_numberOf 6 [some (vR 15 0 17), some (vI a), some (vR 13 0 b), some (vR 14 0 11), some (vI l), some (vI i)] [] r c (MRc nb db by_ rs) m ml m' ml := fun r m' G =>
          g_su_numberOf_6 hbb ⟨fun g => absurd g nend, fun _ => ⟨_, _, _, g2, fun _ => G, fun g => absurd rfl g⟩⟩
        rcases ih (i + nI 1) l m1 (inc hi) (by rw [hl, cS_f g1]) f1' with ⟨q', m', b1, b2, b3, b4, b5, b6, b7⟩ | ⟨b1, m', b2, b3⟩
        · exact Or.inl ⟨q', m', by omega, b2, b3, b4, b5, st _ _ b6, b7⟩
        · refine Or.inr ⟨fun q' h1 h2 h3 => ?_, m', b2, st _ _ b3⟩
          rcases Nat.lt_or_ge q q' with z | z
          · exact b1 q' (by omega) h2 h3
          · rw [show q' = q by omega] at h3; exact absurd h3 g1
  rcases key 0 (by omega) _ _ mi rfl rfl (fun _ _ => rfl) with ⟨q', m', b1, b2, b3, b4, b5, b6, b7⟩ | ⟨b1, m', b2, b3⟩
  · exact Or.inl ⟨q', m', b2, b3, b4, b5, g_su_numberOf_0 hbb b6, b7⟩
  · exact Or.inr ⟨fun q h1 h2 => b1 q (by omega) h1 h2, m', b2, g_su_numberOf_0 hbb b3⟩
theorem R_numR (S : SR σ mj) {n : Nat} (hn : σ 0 5 = n) {a : Int32} {I : Nat} (hI : ∀ m : Nat, m ≤ 63 → (nI m = a ↔ m = I)) : (∃ q m', q ≤ 2 * n ∧ SP σ q ∧ cS σ q = I ∧ F61 mk m' ∧ Ret m_r_suspectNumber [vR 19 0 48, vI a] (some (vI (nI q))) c (MRc nb db by_ rs) mj mk mj m' ∧ ∀ k : Nat, (k : Int) < σ 0 5 → m' 61 k = zL (xQ σ q k)) ∨ ((∀ q, q ≤ 2 * n → SP σ q → cS σ q ≠ I) ∧ ∃ m', F61 mk m' ∧ Ret m_r_suspectNumber [vR 19 0 48, vI a] (some (vI (-(nI 1)))) c (MRc nb db by_ rs) mj mk mj m') := by
  have S' := S
  have h31 : n ≤ 31 := by have := S.1.1.nn; omega
  have hc : mj 48 5 = nI n := S.1.2.1.n hn
  have key : ∀ q, q ≤ 2 * n + 1 → ∀ (i l : Int32) (m : ML), i = nI q → l = nI (cS σ q) → F61 mk m → (∃ q' m', q ≤ q' ∧ q' ≤ 2 * n ∧ SP σ q' ∧ cS σ q' = I ∧ F61 mk m' ∧ Go m_r_suspectNumber 4 [some (vR 19 0 48), some (vI a), some (vI l), some (vI i)] [] (some (vI (nI q'))) c (MRc nb db by_ rs) mj m mj m' ∧ ∀ k : Nat, (k : Int) < σ 0 5 → m' 61 k = zL (xQ σ q' k)) ∨ ((∀ q', q ≤ q' → q' ≤ 2 * n → SP σ q' → cS σ q' ≠ I) ∧ ∃ m', F61 mk m' ∧ Go m_r_suspectNumber 4 [some (vR 19 0 48), some (vI a), some (vI l), some (vI i)] [] (some (vI (-(nI 1)))) c (MRc nb db by_ rs) mj m mj m') := by
    refine upto ?_ ?_
    · intro i l m hi hl hm
      exact Or.inr ⟨fun q' h1 h2 => by omega, m, hm, g_r_suspectNumber_4 ⟨fun _ => ⟨rfl, rfl, rfl⟩, fun g => absurd ((end2 hc hi h31 (by omega)).mpr (by omega)) g⟩⟩
    · intro q hq ih i l m hi hl hm
      have hk := cS_le σ q
      have ec : l = a ↔ cS σ q = I := by rw [hl]; exact hI _ (by omega)
      obtain ⟨m1, f1, f2⟩ := R_isSusp (nb := nb) (db := db) (by_ := by_) (rs := rs) (c := c) (mk := m) S' (q := q) (by omega) hi
      have f1' : F61 mk m1 := fun a ha => (f1 a ha).trans (hm a ha)
      have nend : ¬ nI 2 * mj 48 5 < i := fun g => absurd ((end2 hc hi h31 (by omega)).mp g) (by omega)
      rcases f2 with ⟨g1, g2, g3⟩ | ⟨g1, g2⟩
      · by_cases h : cS σ q = I
        · exact Or.inl ⟨q, m1, Nat.le_refl _, by omega, g1, h, f1', g_r_suspectNumber_4 ⟨fun g => absurd g nend, fun _ => ⟨_, _, _, g2, fun _ => ⟨fun g => absurd (ec.mpr h) g, fun _ => ⟨by rw [hi], rfl, rfl⟩⟩, fun g => absurd g n10⟩⟩, g3⟩
        · have st : ∀ r m', Go m_r_suspectNumber 4 [some (vR 19 0 48), some (vI a), some (vI (l + nI 1)), some (vI (i + nI 1))] [] r c (MRc nb db by_ rs) mj m1 mj m' → Go m_r_suspectNumber 4 [some (vR 19 0 48), some (vI a), some (vI l), some (vI i)] [] r c (MRc nb db by_ rs) mj m mj m' := fun r m' G =>
            g_r_suspectNumber_4 ⟨fun g => absurd g nend, fun _ => ⟨_, _, _, g2, fun _ => ⟨fun _ => G, fun g => absurd (ec.mp g) h⟩, fun g => absurd g n10⟩⟩
          rcases ih (i + nI 1) (l + nI 1) m1 (inc hi) (by rw [inc hl, cS_t g1]) f1' with ⟨q', m', b1, b2, b3, b4, b5, b6, b7⟩ | ⟨b1, m', b2, b3⟩
          · exact Or.inl ⟨q', m', by omega, b2, b3, b4, b5, st _ _ b6, b7⟩
          · refine Or.inr ⟨fun q' h1 h2 h3 => ?_, m', b2, st _ _ b3⟩
            rcases Nat.lt_or_ge q q' with z | z
            · exact b1 q' (by omega) h2 h3
            · rw [show q' = q by omega]; exact h
      · have st : ∀ r m', Go m_r_suspectNumber 4 [some (vR 19 0 48), some (vI a), some (vI l), some (vI (i + nI 1))] [] r c (MRc nb db by_ rs) mj m1 mj m' → Go m_r_suspectNumber 4 [some (vR 19 0 48), some (vI a), some (vI l), some (vI i)] [] r c (MRc nb db by_ rs) mj m mj m' := fun r m' G =>
          g_r_suspectNumber_4 ⟨fun g => absurd g nend, fun _ => ⟨_, _, _, g2, fun g => absurd rfl g, fun _ => G⟩⟩
        rcases ih (i + nI 1) l m1 (inc hi) (by rw [hl, cS_f g1]) f1' with ⟨q', m', b1, b2, b3, b4, b5, b6, b7⟩ | ⟨b1, m', b2, b3⟩
        · exact Or.inl ⟨q', m', by omega, b2, b3, b4, b5, st _ _ b6, b7⟩
        · refine Or.inr ⟨fun q' h1 h2 h3 => ?_, m', b2, st _ _ b3⟩
          rcases Nat.lt_or_ge q q' with z | z
          · exact b1 q' (by omega) h2 h3
          · rw [show q' = q by omega] at h3; exact absurd h3 g1
  rcases key 0 (by omega) _ _ mk rfl rfl (fun _ _ => rfl) with ⟨q', m', b1, b2, b3, b4, b5, b6, b7⟩ | ⟨b1, m', b2, b3⟩
  · exact Or.inl ⟨q', m', b2, b3, b4, b5, g_r_suspectNumber_0 b6, b7⟩
  · exact Or.inr ⟨fun q h1 h2 => b1 q (by omega) h1 h2, m', b2, g_r_suspectNumber_0 b3⟩
theorem R_countR (S : SR σ mj) {n : Nat} (hn : σ 0 5 = n) : ∃ m', F61 mk m' ∧ Go m_r_suspects 28 [some (vR 19 0 48), some (vI (nI 0)), some (vI (nI 0)), some (vI (nI 0))] [] (some (vI (nI (cS σ (2 * n + 1))))) c (MRc nb db by_ rs) mj mk (u2 (u2 mj 48 1 (nI 0)) 48 2 (-(nI 1))) m' := by
  have S' := S
  have h31 : n ≤ 31 := by have := S.1.1.nn; omega
  have hc : mj 48 5 = nI n := S.1.2.1.n hn
  have key : ∀ q, q ≤ 2 * n + 1 → ∀ (i a : Int32) (m : ML), i = nI q → a = nI (cS σ q) → F61 mk m → ∃ m', F61 mk m' ∧ Go m_r_suspects 28 [some (vR 19 0 48), some (vI (nI 0)), some (vI a), some (vI i)] [] (some (vI (nI (cS σ (2 * n + 1))))) c (MRc nb db by_ rs) mj m (u2 (u2 mj 48 1 (nI 0)) 48 2 (-(nI 1))) m' := by
    refine upto ?_ ?_
    · intro i a m hi ha hm
      exact ⟨m, hm, g_r_suspects_28 ⟨fun _ => ⟨by rw [ha], rfl, rfl⟩, fun g => absurd ((end2 hc hi h31 (by omega)).mpr (by omega)) g⟩⟩
    · intro q hq ih i a m hi ha hm
      have hk := cS_le σ q
      obtain ⟨m1, f1, f2⟩ := R_isSusp (nb := nb) (db := db) (by_ := by_) (rs := rs) (c := c) (mk := m) S' (q := q) (by omega) hi
      have f1' : F61 mk m1 := fun a ha => (f1 a ha).trans (hm a ha)
      rcases f2 with ⟨g1, g2, -⟩ | ⟨g1, g2⟩
      · obtain ⟨m', p1, p2⟩ := ih (i + nI 1) (a + nI 1) m1 (inc hi) (by rw [inc ha, cS_t g1]) f1'
        exact ⟨m', p1, g_r_suspects_28 ⟨fun g => absurd ((end2 hc hi h31 (by omega)).mp g) (by omega), fun _ => ⟨_, _, _, g2, fun g => absurd g n10, fun _ => p2⟩⟩⟩
      · obtain ⟨m', p1, p2⟩ := ih (i + nI 1) (a + nI 0) m1 (inc hi) (by rw [ha, nI_add, cS_f g1]; rfl) f1'
        exact ⟨m', p1, g_r_suspects_28 ⟨fun g => absurd ((end2 hc hi h31 (by omega)).mp g) (by omega), fun _ => ⟨_, _, _, g2, fun _ => p2, fun g => absurd rfl g⟩⟩⟩
  exact key 0 (by omega) _ _ mk rfl rfl (fun _ _ => rfl)
end
