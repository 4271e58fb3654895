/-! ===== masks: the reference's new row; all rows ===== -/
theorem wtS {a b A : Nat} (h : a ≤ A * b) (hb : b = 1) : a ≤ A := by rw [hb, Nat.mul_one] at h; exact h
theorem wt_lo {q : Nat} (h : q < 43) : wt43 q = 1 := by unfold wt43; rw [if_neg (by omega)]
section
variable {nb db b : Nat} {by_ rs : RX} {c : Nat} {mi mj : MI} {ml mk : ML} {vs : List (Nat → Int)} {ps : List Nat} {v : Nat → Int}
theorem LR2_loop (hP : Piv vs ps) (hl : ps.length = vs.length) (hR : ps.length < 12) (hps : ∀ q ∈ ps, q < 31) (hv : okR (v :: vs)) {p : Nat} (hp : p < 31) (hne : NW v vs ps p ≠ 0) (h48 : mi 48 51 = nI ps.length)
    {x : Int32} (hx : x = nI p) {u w z : Int64} : ∀ j, j ≤ ps.length → ∀ (i : Int32) (m : ML), i = nI j → (∀ t, t < j → RW m t (fun k => XX (v :: vs) (p :: ps) t (cc k)) (SS (v :: vs) (p :: ps))) → (∀ t, j ≤ t → t < ps.length → RW m t (fun k => XX vs ps t (cc k)) (SS vs ps)) → RW m ps.length (fun k => XX (v :: vs) (p :: ps) ps.length (cc k)) (SS (v :: vs) (p :: ps)) →
    ∃ m' : ML, Go m_r_laysRow 126 [some (vR 19 0 48), some (vI x), some (vL u), none, some (vL w), none, some (vL z), none, some (vI i)] [] none c (MRc nb db by_ rs) mi m (u2 mi 48 51 (nI (ps.length + 1))) m' ∧ (∀ t, t ≤ ps.length → RW m' t (fun k => XX (v :: vs) (p :: ps) t (cc k)) (SS (v :: vs) (p :: ps))) ∧ ∀ a, a ≠ 48 → a ≠ 62 → a ≠ 63 → m' a = m a := by
  have h0 := Piv_ne hP
  have hne' : dt (v :: vs) (p :: ps) ≠ 0 := fun e => hne ((NW_ne h0).mpr e)
  have hvs : okR vs := fun u hu => hv u (List.mem_cons_of_mem _ hu)
  have hps43 : ∀ q ∈ ps, q < 43 := fun q hq => by have := hps q hq; omega
  have hpp43 : ∀ q ∈ p :: ps, q < 43 := fun q hq => by
    rcases List.mem_cons.mp hq with e | e
    · omega
    · exact hps43 q e
  have hll : (p :: ps).length = (v :: vs).length := by simp [hl]
  have b11 := bb_11 vs.length (by omega)
  have b12 := bb_12 (v :: vs).length (by simp; omega)
  have s1 := SS_bd hvs hps43 hl
  have s2 := SS_bd hv hpp43 hll
  have p1 := SS_pos h0
  have p2 := SS_pos hne'
  refine upto ?_ ?_
  · intro i m hi g1 g2 g3
    refine ⟨m, g_r_laysRow_126 ⟨fun _ => ⟨rfl, by rw [h48, nI_add], rfl⟩, fun g => absurd (by rw [h48, hi]; exact Int32.le_refl _) g⟩, fun t ht => ?_, fun _ _ _ _ => rfl⟩
    by_cases e : t = ps.length
    · rw [e]; exact g3
    · exact g1 t (by omega)
  · intro j hj ih i m hi g1 g2 g3
    have xb1 : ∀ k, k < 44 → (XX vs ps j (cc k)).natAbs ≤ 1247400 * wt43 (cc k) := fun k _ => Nat.le_trans (XX_bd hvs hps43 hl hj (cc k)) (Nat.mul_le_mul_right _ b11)
    have xb2 : ∀ k, k < 44 → (XX (v :: vs) (p :: ps) ps.length (cc k)).natAbs ≤ 7484400 * wt43 (cc k) := fun k _ => Nat.le_trans (XX_bd hv hpp43 hll (by simp) (cc k)) (Nat.mul_le_mul_right _ b12)
    have xp : (XX vs ps j (cc p)).natAbs ≤ 1247400 := wtS (xb1 p (by omega)) (by rw [cc_lo hp]; exact wt_lo (by omega))
    obtain ⟨m1, q1, q2, q3, q4⟩ := R_clears (nb := nb) (db := db) (by_ := by_) (rs := rs) (c := c) (mi := mi) (ml := m) (r := j) (w := ps.length) (col := p) (F1 := fun k => XX vs ps j (cc k)) (F2 := fun k => XX (v :: vs) (p :: ps) ps.length (cc k)) (F' := fun k => XX (v :: vs) (p :: ps) j (cc k)) (S1 := SS vs ps) (S2 := SS (v :: vs) (p :: ps)) (S' := SS (v :: vs) (p :: ps)) (by omega) hR (by omega) (by omega) p1 p2 p2
      (by
        have : SS vs ps * SS (v :: vs) (p :: ps) ≤ 1247400 * 7484400 := Int.mul_le_mul (by omega) (by omega) (Int.le_of_lt p2) (by decide)
        omega)
      (by
        show (XX vs ps j (cc p)).natAbs < _
        omega)
      (fun k hk => by
        show (XX (v :: vs) (p :: ps) ps.length (cc k)).natAbs < _
        have h1 := xb2 k hk
        have h2 := (wt_le (cc k)).2
        have : 7484400 * wt43 (cc k) ≤ 7484400 * 309969 := Nat.mul_le_mul_left _ h2
        omega)
      (fun k hk => by
        show (XX vs ps j (cc k)).natAbs * (SS (v :: vs) (p :: ps)).natAbs + (XX vs ps j (cc p)).natAbs * (XX (v :: vs) (p :: ps) ps.length (cc k)).natAbs < _
        have h1 := m3 (A := 1247400) (W := 309969) (B := 7484400) (N := 2893977684726640000) (xb1 k hk) (show (SS (v :: vs) (p :: ps)).natAbs ≤ 7484400 by omega) (wt_le (cc k)).2 (by decide)
        have h2 := m3 (A := 7484400) (W := 309969) (B := 1247400) (N := 2893977684726640000) (xb2 k hk) xp (wt_le (cc k)).2 (by decide)
        rw [Nat.mul_comm] at h2
        omega)
      (fun k hk => by
        show XX (v :: vs) (p :: ps) j (cc k) * (SS vs ps * SS (v :: vs) (p :: ps)) = SS (v :: vs) (p :: ps) * (XX vs ps j (cc k) * SS (v :: vs) (p :: ps) - XX vs ps j (cc p) * XX (v :: vs) (p :: ps) ps.length (cc k))
        have := XX_old hP hne' hj (cc k)
        rw [cc_lo hp]
        grind)
      hi h48 hx (g2 j (by omega) hj) g3
    have A1 : ∀ t, t < j + 1 → RW m1 t (fun k => XX (v :: vs) (p :: ps) t (cc k)) (SS (v :: vs) (p :: ps)) := fun t ht => by
      by_cases e : t = j
      · rw [e]; exact q2
      · intro k hk
        have := q3 (44 * t + k) (by omega)
        rw [this.1, this.2]; exact g1 t (by omega) k hk
    have A2 : ∀ t, j + 1 ≤ t → t < ps.length → RW m1 t (fun k => XX vs ps t (cc k)) (SS vs ps) := fun t t1 t2 k hk => by
      have := q3 (44 * t + k) (by omega)
      rw [this.1, this.2]; exact g2 t (by omega) t2 k hk
    have A3 : RW m1 ps.length (fun k => XX (v :: vs) (p :: ps) ps.length (cc k)) (SS (v :: vs) (p :: ps)) := fun k hk => by
      have := q3 (44 * ps.length + k) (by omega)
      rw [this.1, this.2]; exact g3 k hk
    obtain ⟨m2, y1, y2, y3⟩ := ih (i + nI 1) m1 (inc hi) A1 A2 A3
    exact ⟨m2, g_r_laysRow_126 ⟨fun g => absurd g (by rw [h48]; exact lp_g rfl hi hj (by omega)), fun _ => ⟨_, _, q1, y1⟩⟩, y2, fun a a1 a2 a3 => by rw [y3 a a1 a2 a3, q4 a a1 a2 a3]⟩
theorem R_laysRow (hP : Piv vs ps) (hl : ps.length = vs.length) (hR : ps.length < 12) (hps : ∀ q ∈ ps, q < 31) (hv : okR (v :: vs)) {p : Nat} (hp : p < 31) (hne : NW v vs ps p ≠ 0) (H : RSm vs ps mi mk) (hN : RW mk ps.length (fun k => NW v vs ps (cc k)) (SS vs ps)) {x : Int32} (hx : x = nI p) :
    ∃ m' : ML, Ret m_r_laysRow [vR 19 0 48, vI x] none c (MRc nb db by_ rs) mi mk (u2 (u2 mi 64 ps.length x) 48 51 (nI (ps.length + 1))) m' ∧ RSm (v :: vs) (p :: ps) (u2 (u2 mi 64 ps.length x) 48 51 (nI (ps.length + 1))) m' ∧ ∀ a, a ≠ 48 → a ≠ 62 → a ≠ 63 → m' a = mk a := by
  have h0 := Piv_ne hP
  have hvs : okR vs := fun u hu => hv u (List.mem_cons_of_mem _ hu)
  have hps43 : ∀ q ∈ ps, q < 43 := fun q hq => by have := hps q hq; omega
  have b11 := bb_11 vs.length (by omega)
  have b12 := bb_12 (vs.length + 1) (by omega)
  have s1 := SS_bd hvs hps43 hl
  have p1 := SS_pos h0
  have nb1 : ∀ k, (NW v vs ps (cc k)).natAbs ≤ 7484400 * wt43 (cc k) := fun k => Nat.le_trans (NW_bd hv hps43 hl (cc k)) (Nat.mul_le_mul_right _ b12)
  have ecp : cc p = p := cc_lo hp
  have np : (NW v vs ps (cc p)).natAbs ≤ 7484400 := wtS (nb1 p) (by rw [ecp]; exact wt_lo (by omega))
  obtain ⟨H1, H2, H3⟩ := H
  have i1 : nI 44 * mi 48 51 + x = nI (44 * ps.length + p) := i44 H1 hx
  have c1 : (nI 44 * mi 48 51 + x).toNatClampNeg = 44 * ps.length + p := cln i1 (by omega)
  have v1 : vp_in (nI 44 * mi 48 51 + x) 528 := ixn i1 (by omega) (by decide)
  obtain ⟨e1, e2⟩ := hN p (by omega)
  have e1 : mk 62 (44 * ps.length + p) = zL (lU (NW v vs ps (cc p)) (SS vs ps)) := e1
  have e2 : mk 63 (44 * ps.length + p) = zL (lL (NW v vs ps (cc p)) (SS vs ps)) := e2
  have hne2 : NW v vs ps (cc p) ≠ 0 := by rw [ecp]; exact hne
  have au := lU_le (x := NW v vs ps (cc p)) p1
  have a0 : lU (NW v vs ps (cc p)) (SS vs ps) ≠ 0 := fun h => hne2 ((lU_0 p1).mp h)
  have G : ∀ w : Int64, w = zL (lU (NW v vs ps (cc p)) (SS vs ps)).sign → ∃ m' : ML, Go m_r_laysRow 49 [some (vR 19 0 48), some (vI x), some (vL (mk 62 (nI 44 * mi 48 51 + x).toNatClampNeg)), none, some (vL (mk 63 (nI 44 * mi 48 51 + x).toNatClampNeg)), none, some (vL w), none, some (vI (nI 0))] [] none c (MRc nb db by_ rs) mi mk (u2 (u2 mi 64 ps.length x) 48 51 (nI (ps.length + 1))) m' ∧ RSm (v :: vs) (p :: ps) (u2 (u2 mi 64 ps.length x) 48 51 (nI (ps.length + 1))) m' ∧ ∀ a, a ≠ 48 → a ≠ 62 → a ≠ 63 → m' a = mk a := by
    intro w hw
    obtain ⟨m2, q1, q2, q3, q4⟩ := LR_loop (nb := nb) (db := db) (by_ := by_) (rs := rs) (c := c) (mi := mi) (R := ps.length) (p := p) (F := fun k => NW v vs ps (cc k)) (G := fun k => XX (v :: vs) (p :: ps) ps.length (cc k)) (S := SS vs ps) (S' := SS (v :: vs) (p :: ps)) hR p1 hne2
      (by
        show SS (v :: vs) (p :: ps) = (NW v vs ps (cc p)).sign * NW v vs ps (cc p)
        rw [SS_new h0, ecp, Int.sign_mul_self])
      (fun k _ => by
        show XX (v :: vs) (p :: ps) ps.length (cc k) = (NW v vs ps (cc p)).sign * NW v vs ps (cc k)
        rw [XX_new h0, ecp])
      (fun k _ => by
        show (NW v vs ps (cc k)).natAbs * (SS vs ps).natAbs < _
        have h1 := m3 (A := 7484400) (W := 309969) (B := 1247400) (N := 2893977684726640000) (nb1 k) (show (SS vs ps).natAbs ≤ 1247400 by omega) (wt_le (cc k)).2 (by decide)
        omega)
      (by
        show (SS vs ps).natAbs * (NW v vs ps (cc p)).natAbs < _
        have : (SS vs ps).natAbs * (NW v vs ps (cc p)).natAbs ≤ 1247400 * 7484400 := Nat.mul_le_mul (by omega) np
        omega)
      H1 (x := x) (u := mk 62 (nI 44 * mi 48 51 + x).toNatClampNeg) (v := mk 63 (nI 44 * mi 48 51 + x).toNatClampNeg) (w := w) (by rw [c1]; exact e1) (by rw [c1]; exact e2) hw 0 (by omega) (nI 0) mk rfl (fun k hk => by omega) (fun k _ hk => hN k hk)
    obtain ⟨m3', r1, r2, r3⟩ := LR2_loop (nb := nb) (db := db) (by_ := by_) (rs := rs) (c := c) (mi := u2 mi 64 ps.length x) (u := mk 62 (nI 44 * mi 48 51 + x).toNatClampNeg) (w := mk 63 (nI 44 * mi 48 51 + x).toNatClampNeg) (z := w) hP hl hR hps hv hp hne H1 hx 0 (by omega) (nI 0) m2 rfl (fun t ht => by omega) (fun t _ ht k hk => by
      have := q3 (44 * t + k) (by omega)
      rw [this.1, this.2]; exact H3 t ht k hk) q2
    refine ⟨m3', q1 _ _ _ r1, ⟨by rw [u2_s]; rfl, fun t ht => ?_, fun t ht => ?_⟩, fun a a1 a2 a3 => by rw [r3 a a1 a2 a3, q4 a a1 a2 a3]⟩
    · rw [u2_o _ _ (by decide)]
      have ht : t < ps.length + 1 := ht
      by_cases e : t = ps.length
      · rw [e, u2_s, hx]
        unfold PT
        rw [List.length_cons, show ps.length + 1 - 1 - ps.length = 0 by omega]; rfl
      · rw [u2_ne2 _ _ (Or.inr e), H2 t (by omega)]
        unfold PT
        rw [List.length_cons, show ps.length + 1 - 1 - t = (ps.length - 1 - t) + 1 by omega]; rfl
    · have ht : t < ps.length + 1 := ht
      exact r2 t (by omega)
  by_cases hs : 0 ≤ lU (NW v vs ps (cc p)) (SS vs ps)
  · obtain ⟨m', g1, g2, g3⟩ := G (lN 1) (by rw [Int.sign_eq_one_iff_pos.mpr (by omega)]; rfl)
    refine ⟨m', g_r_laysRow_0 ⟨v1, v1, fun _ => g1, fun g => absurd ?_ g⟩, g2, g3⟩
    rw [c1, e1, lN_z, zL_le (by decide) (lR63 (by omega))]; exact hs
  · obtain ⟨m', g1, g2, g3⟩ := G (-(lN 1)) (by rw [Int.sign_eq_neg_one_iff_neg.mpr (by omega)]; rfl)
    refine ⟨m', g_r_laysRow_0 ⟨v1, v1, fun g => absurd g ?_, fun _ => g1⟩, g2, g3⟩
    rw [c1, e1, lN_z, zL_le (by decide) (lR63 (by omega))]; exact hs
end
