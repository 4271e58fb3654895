/-! ===== the reference's rows of fractions ===== -/
def RW (mk : ML) (r : Nat) (F : Nat → Int) (S : Int) : Prop := ∀ k, k < 44 → mk 62 (44 * r + k) = zL (lU (F k) S) ∧ mk 63 (44 * r + k) = zL (lL (F k) S)
def putL (ml : ML) (i : Nat) (p q : Int) : ML := u2 (u2 (u2 (u2 ml 48 3 (zL p)) 48 4 (zL q)) 62 i (zL p)) 63 i (zL q)
theorem putL_62 (ml : ML) (i : Nat) (p q : Int) (j : Nat) : putL ml i p q 62 j = if j = i then zL p else ml 62 j := by
  unfold putL
  rw [u2_o _ _ (by decide), u2_if]
  by_cases e : j = i
  · rw [if_pos ⟨rfl, e⟩, if_pos e]
  · rw [if_neg (fun y : 62 = 62 ∧ j = i => e y.2), if_neg e, u2_o _ _ (by decide), u2_o _ _ (by decide)]
theorem putL_63 (ml : ML) (i : Nat) (p q : Int) (j : Nat) : putL ml i p q 63 j = if j = i then zL q else ml 63 j := by
  unfold putL
  rw [u2_if]
  by_cases e : j = i
  · rw [if_pos ⟨rfl, e⟩, if_pos e]
  · rw [if_neg (fun y : 63 = 63 ∧ j = i => e y.2), if_neg e, u2_o _ _ (by decide), u2_o _ _ (by decide), u2_o _ _ (by decide)]
theorem putL_o (ml : ML) (i : Nat) (p q : Int) {a : Nat} (h1 : a ≠ 48) (h2 : a ≠ 62) (h3 : a ≠ 63) : putL ml i p q a = ml a := by
  unfold putL
  rw [u2_o _ _ h3, u2_o _ _ h2, u2_o _ _ h1, u2_o _ _ h1]
theorem i44 {x y : Int32} {r k : Nat} (hx : x = nI r) (hy : y = nI k) : nI 44 * x + y = nI (44 * r + k) := by rw [hx, hy, pk_mul, nI_add]
theorem lt63 {x : Int} (h : x.natAbs < 9223372036854775808) : -9223372036854775808 < x ∧ x < 9223372036854775808 := by omega
theorem lR63 {x : Int} (h : x.natAbs < 9223372036854775808) : lR x := ⟨by omega, by omega⟩
theorem CL_arith {F1j F2j F1c Fj S1 S2 S' : Int} (hS1 : 0 < S1) (hS2 : 0 < S2) (hS' : 0 < S') (h12 : S1 * S2 < 9223372036854775808) (hB : F1j.natAbs * S2.natAbs + F1c.natAbs * F2j.natAbs < 9223372036854775808) (fj : Fj * (S1 * S2) = S' * (F1j * S2 - F1c * F2j)) {U D : Int} (eU : U = lU F2j S2 * lU F1c S1) (eD : D = lL F2j S2 * lL F1c S1) :
    U.natAbs < 9223372036854775808 ∧ 0 < D ∧ D < 9223372036854775808 ∧ 0 < lL U D ∧ lL U D ≤ D ∧ 0 < lL F1j S1 ∧ lL F1j S1 < 9223372036854775808 ∧ ∃ a' b' : Int, (lL F1j S1).tdiv (gcZ (lL F1j S1) (lL U D)) = a' ∧ (a' * lL U D).tdiv (lL F1j S1) = b' ∧ (a' * lL U D).tdiv (lL U D) = a' ∧ 0 < a' * lL U D ∧ a' * lL U D < 9223372036854775808 ∧ (lU F1j S1 * b' - lU U D * a').natAbs < 9223372036854775808 ∧ lU (lU F1j S1 * b' - lU U D * a') (a' * lL U D) = lU Fj S' ∧ lL (lU F1j S1 * b' - lU U D * a') (a' * lL U D) = lL Fj S' := by
  have hS12 : 0 < S1 * S2 := Int.mul_pos hS1 hS2
  have hS1l : S1 ≤ S1 * S2 := by
    have := Int.mul_le_mul_of_nonneg_left (show (1 : Int) ≤ S2 by omega) (Int.le_of_lt hS1)
    rw [Int.mul_one] at this; exact this
  have la := lL_pos (x := F1c) hS1
  have lb := lL_pos (x := F2j) hS2
  have own := lL_pos (x := F1j) hS1
  have own2 := lL_le (x := F1j) hS1
  have hUb : U.natAbs ≤ F1c.natAbs * F2j.natAbs := by
    rw [eU, Int.natAbs_mul, Nat.mul_comm]
    exact Nat.mul_le_mul (lU_le hS1) (lU_le hS2)
  have hDp : 0 < D := by rw [eD]; exact Int.mul_pos lb la
  have hDl : D ≤ S1 * S2 := by
    rw [eD, Int.mul_comm S1]
    exact Int.mul_le_mul (lL_le hS2) (lL_le hS1) (Int.le_of_lt la) (Int.le_of_lt hS2)
  have hDd : D ∣ S1 * S2 := by
    rw [eD, Int.mul_comm S1]
    exact Int.mul_dvd_mul lL_dvd lL_dvd
  have hUD : U * (S1 * S2) = F1c * F2j * D := by
    have rat1 := lw_rat (x := F1c) (s := S1)
    have rat2 := lw_rat (x := F2j) (s := S2)
    rw [eU, eD]
    grind
  have hLp := lL_pos (x := U) hDp
  have hLl := lL_le (x := U) hDp
  have hLd : lL U D ∣ S1 * S2 := Int.dvd_trans (lL_dvd (x := U) (s := D)) hDd
  have hV : lU U D * (S1 * S2) = F1c * F2j * lL U D := by
    have ratV := lw_rat (x := U) (s := D)
    refine cancelL hDp ?_
    grind
  have hOd : lL F1j S1 ∣ S1 * S2 := Int.dvd_trans lL_dvd (Int.dvd_mul_right S1 S2)
  have hAle := lcm_le own hLp hS12 hOd hLd
  obtain ⟨g, a', b', -, -, pa, pb, -, -, t1, t2, t3, t4, pA⟩ := lcm_ex own hLp
  rw [t1] at hAle
  have rat3 := lw_rat (x := F1j) (s := S1)
  have hnum := lw_sub (U1 := lU F1j S1) (L1 := lL F1j S1) (V := lU U D) (L := lL U D) (X1 := F1j) (S1 := S1) (X2 := F1c * F2j) (S2 := S1 * S2) (Z := Fj) (S := S') (a' := a') (b' := b') (A := a' * lL U D) hS1 hS12 hS' pA t4 rfl rat3 hV (by grind)
  have n1 := abs_cmp (Y := lU F1j S1 * b') (S1 := S1) (X1 := F1j) (A := a' * lL U D) (t := S2) hS1 (Int.le_of_lt hS2) (by rw [t4]; grind) pA hAle
  have n2 := abs_cmp (Y := lU U D * a') (S1 := S1 * S2) (X1 := F1c * F2j) (A := a' * lL U D) (t := 1) hS12 (by decide) (by grind) pA (by rw [Int.mul_one]; exact hAle)
  rw [Int.natAbs_mul F1c, show (1 : Int).natAbs = 1 from rfl, Nat.mul_one] at n2
  refine ⟨by omega, hDp, by omega, hLp, hLl, own, by omega, a', b', t1, t2, t3, pA, by omega, ?_, hnum.1, hnum.2⟩
  generalize lU F1j S1 * b' = Y1 at n1
  generalize lU U D * a' = Y2 at n2
  clear hnum
  omega
section
variable {nb db b : Nat} {by_ rs : RX} {c : Nat} {mi mj : MI} {ml mk : ML}
theorem R_puts {r k : Nat} (hr : r < 12) (hk : k < 44) {x y : Int32} (hx : x = nI r) (hy : y = nI k) {u d : Int} (hu : -9223372036854775808 < u ∧ u < 9223372036854775808) (hd : 0 < d ∧ d < 9223372036854775808) {p q : Int64} (hp : p = zL u) (hq : q = zL d) : Ret m_r_puts [vR 19 0 48, vI x, vI y, vL p, vL q] none c (MRc nb db by_ rs) mi ml mi (putL ml (44 * r + k) (lU u d) (lL u d)) := by
  have e := i44 hx hy
  refine g_r_puts_0 ⟨_, _, R_sets hu hd hp hq, ixn e (by omega) (by decide), ixn e (by omega) (by decide), rfl, rfl, ?_⟩
  rw [cln e (by omega)]
  rfl
theorem CL_loop {r w col : Nat} (hr : r < 12) (hw : w < 12) (hrw : r ≠ w) {F1 F2 F' : Nat → Int} {S1 S2 S' : Int} (hS1 : 0 < S1) (hS2 : 0 < S2) (hS' : 0 < S') (h12 : S1 * S2 < 9223372036854775808) (hB2 : ∀ k, k < 44 → (F2 k).natAbs < 9223372036854775808) (hB : ∀ k, k < 44 → (F1 k).natAbs * S2.natAbs + (F1 col).natAbs * (F2 k).natAbs < 9223372036854775808) (hF : ∀ k, k < 44 → F' k * (S1 * S2) = S' * (F1 k * S2 - F1 col * F2 k))
    {x y z : Int32} (hx : x = nI r) (hy : y = nI w) {p q : Int64} (hp : p = zL (lU (F1 col) S1)) (hq : q = zL (lL (F1 col) S1)) :
    ∀ j, j ≤ 44 → ∀ (i : Int32) (m : ML), i = nI j → RW m w F2 S2 → (∀ k, j ≤ k → k < 44 → m 62 (44 * r + k) = zL (lU (F1 k) S1) ∧ m 63 (44 * r + k) = zL (lL (F1 k) S1)) →
    ∃ m' : ML, Go m_r_clears 37 [some (vR 19 0 48), some (vI x), some (vI y), some (vI z), some (vL p), none, some (vL q), none, some (vI i), none, none, none, none, none, none, none, none, none, none] [] none c (MRc nb db by_ rs) mi m mi m' ∧ (∀ k, j ≤ k → k < 44 → m' 62 (44 * r + k) = zL (lU (F' k) S') ∧ m' 63 (44 * r + k) = zL (lL (F' k) S')) ∧ (∀ t, t < 44 * r + j ∨ 44 * r + 44 ≤ t → m' 62 t = m 62 t ∧ m' 63 t = m 63 t) ∧ ∀ a, a ≠ 48 → a ≠ 62 → a ≠ 63 → m' a = m a := by
  have hS12 : 0 < S1 * S2 := Int.mul_pos hS1 hS2
  have hS1l : S1 ≤ S1 * S2 := by
    have := Int.mul_le_mul_of_nonneg_left (show (1 : Int) ≤ S2 by omega) (Int.le_of_lt hS1)
    rw [Int.mul_one] at this; exact this
  refine upto ?_ ?_
  · intro i m hi hW hR
    exact ⟨m, g_r_clears_37 ⟨fun _ => ⟨rfl, rfl, rfl⟩, fun g => absurd (by rw [hi]; exact Int32.le_refl _) g⟩, fun k h1 h2 => by omega, fun _ _ => ⟨rfl, rfl⟩, fun _ _ _ _ => rfl⟩
  · intro j hj ih i m hi hW hR
    have i1 := i44 hy hi
    have i2 := i44 hx hi
    have c1 : (nI 44 * y + i).toNatClampNeg = 44 * w + j := cln i1 (by omega)
    have c2 : (nI 44 * x + i).toNatClampNeg = 44 * r + j := cln i2 (by omega)
    have v1 : vp_in (nI 44 * y + i) 528 := ixn i1 (by omega) (by decide)
    have v2 : vp_in (nI 44 * x + i) 528 := ixn i2 (by omega) (by decide)
    obtain ⟨w1, w2⟩ := hW j hj
    obtain ⟨r1, r2⟩ := hR j (by omega) hj
    have bj := hB j hj
    have fj := hF j hj
    have hng : ¬ nI 44 ≤ i := by rw [hi, nI_leN (by decide) (by omega)]; omega
    have lu2 := lU_le (x := F2 j) hS2
    have same : F1 col * F2 j = 0 → (lU (F1 j) S1 = lU (F' j) S' ∧ lL (F1 j) S1 = lL (F' j) S') := fun h0 => by
      refine lw_eq hS1 hS' (cancelL hS2 ?_)
      have : F' j * (S1 * S2) = S' * (F1 j * S2) := by rw [fj, h0, Int.sub_zero]
      grind
    by_cases h0 : F2 j = 0
    · have z1 : m 62 (nI 44 * y + i).toNatClampNeg = lN 0 := by rw [c1, w1, (lU_0 hS2).mpr h0]; rfl
      obtain ⟨e1, e2⟩ := same (by rw [h0, Int.mul_zero])
      obtain ⟨m', p1, p2, p3, p4⟩ := ih (i + nI 1) m (inc hi) hW (fun k h1 h2 => hR k (by omega) h2)
      refine ⟨m', g_r_clears_37 ⟨fun g => absurd g hng, fun _ => ⟨v1, fun g => absurd z1 g, fun _ => p1⟩⟩, fun k h1 h2 => ?_, fun t ht => p3 t (by omega), p4⟩
      by_cases e : k = j
      · subst e
        rw [(p3 (44 * r + k) (by omega)).1, (p3 (44 * r + k) (by omega)).2, r1, r2, e1, e2]
        exact ⟨rfl, rfl⟩
      · exact p2 k (by omega) h2
    · have hu0 : lU (F2 j) S2 ≠ 0 := fun h => h0 ((lU_0 hS2).mp h)
      have hnz : ¬ m 62 (nI 44 * y + i).toNatClampNeg = lN 0 := by
        rw [c1, w1]
        exact zL_nz (lR63 (Nat.lt_of_le_of_lt lu2 (hB2 j hj))) hu0
      have iW : ∀ k, k < 44 → ¬ 44 * w + k = 44 * r + j := fun k hk => by omega
      have iR : ∀ k, j + 1 ≤ k → ¬ 44 * r + k = 44 * r + j := fun k hk => by omega
      have iT : ∀ t, t < 44 * r + j ∨ 44 * r + 44 ≤ t → ¬ t = 44 * r + j := fun t ht => by omega
      have iT2 : ∀ t, t < 44 * r + j ∨ 44 * r + 44 ≤ t → t < 44 * r + (j + 1) ∨ 44 * r + 44 ≤ t := fun t ht => by omega
      have iJ : 44 * r + j < 44 * r + (j + 1) ∨ 44 * r + 44 ≤ 44 * r + j := by omega
      have eU : m 62 (nI 44 * y + i).toNatClampNeg * p = zL (lU (F2 j) S2 * lU (F1 col) S1) := by rw [c1, w1, hp, zL_mul]
      have eD : m 63 (nI 44 * y + i).toNatClampNeg * q = zL (lL (F2 j) S2 * lL (F1 col) S1) := by rw [c1, w2, hq, zL_mul]
      have eO : m 63 (nI 44 * x + i).toNatClampNeg = zL (lL (F1 j) S1) := by rw [c2, r2]
      have eU1 : m 62 (nI 44 * x + i).toNatClampNeg = zL (lU (F1 j) S1) := by rw [c2, r1]
      obtain ⟨hUl, hDp, hDl, hLp, hLl, own, ownl, a', b', t1, t2, t3, pA, lA, n3, s1, s2⟩ := CL_arith hS1 hS2 hS' h12 bj fj rfl rfl
      clear same bj fj lu2 h0 hu0 r1 r2 w1 w2
      generalize lU (F2 j) S2 * lU (F1 col) S1 = U at *
      generalize lL (F2 j) S2 * lL (F1 col) S1 = D at *
      have gp := (gcZ_bd (u := U) hDp)
      have eg : lN (Nat.gcd U.natAbs D.natAbs) = zL (gcZ U D) := lN_z _
      have nz1 : ¬ lN (Nat.gcd U.natAbs D.natAbs) = 0 := by rw [eg]; exact zL_nz ⟨by omega, by omega⟩ (by omega)
      have eL : zL D / lN (Nat.gcd U.natAbs D.natAbs) = zL (lL U D) := by rw [eg, zL_div ⟨by omega, by omega⟩ ⟨by omega, by omega⟩]; rfl
      have eV : zL U / lN (Nat.gcd U.natAbs D.natAbs) = zL (lU U D) := by rw [eg, zL_div ⟨by omega, by omega⟩ ⟨by omega, by omega⟩]; rfl
      generalize lL U D = L at *
      generalize lU U D = V at *
      generalize lL (F1 j) S1 = O at *
      generalize lU (F1 j) S1 = U1 at *
      have g3 := gcZ_bd (u := O) hLp
      have eg3 : lN (Nat.gcd O.natAbs L.natAbs) = zL (gcZ O L) := lN_z _
      have nz3 : ¬ lN (Nat.gcd O.natAbs L.natAbs) = 0 := by rw [eg3]; exact zL_nz ⟨by omega, by omega⟩ (by omega)
      have e3 : zL O / lN (Nat.gcd O.natAbs L.natAbs) = zL a' := by rw [eg3, zL_div ⟨by omega, by omega⟩ ⟨by omega, by omega⟩, t1]
      have eN : m 62 (nI 44 * x + i).toNatClampNeg * ((m 63 (nI 44 * x + i).toNatClampNeg / lN (Nat.gcd O.natAbs L.natAbs)) * ((m 63 (nI 44 * y + i).toNatClampNeg * q) / lN (Nat.gcd U.natAbs D.natAbs)) / m 63 (nI 44 * x + i).toNatClampNeg) - (m 62 (nI 44 * y + i).toNatClampNeg * p) / lN (Nat.gcd U.natAbs D.natAbs) * ((m 63 (nI 44 * x + i).toNatClampNeg / lN (Nat.gcd O.natAbs L.natAbs)) * ((m 63 (nI 44 * y + i).toNatClampNeg * q) / lN (Nat.gcd U.natAbs D.natAbs)) / ((m 63 (nI 44 * y + i).toNatClampNeg * q) / lN (Nat.gcd U.natAbs D.natAbs))) = zL (U1 * b' - V * a') := by
        rw [eU, eD, eO, eU1, eL, eV, e3, zL_mul, zL_div ⟨by omega, by omega⟩ ⟨by omega, by omega⟩, zL_div ⟨by omega, by omega⟩ ⟨by omega, by omega⟩, t2, t3, zL_mul, zL_mul, zL_sub]
      have eA : (m 63 (nI 44 * x + i).toNatClampNeg / lN (Nat.gcd O.natAbs L.natAbs)) * ((m 63 (nI 44 * y + i).toNatClampNeg * q) / lN (Nat.gcd U.natAbs D.natAbs)) = zL (a' * L) := by rw [eD, eO, eL, e3, zL_mul]
      have eLq : m 63 (nI 44 * y + i).toNatClampNeg * q / lN (Nat.gcd U.natAbs D.natAbs) = zL L := by rw [eD, eL]
      have nzO : ¬ m 63 (nI 44 * x + i).toNatClampNeg = 0 := by rw [eO]; exact zL_nz ⟨by omega, by omega⟩ (by omega)
      have nzL : ¬ m 63 (nI 44 * y + i).toNatClampNeg * q / lN (Nat.gcd U.natAbs D.natAbs) = 0 := by rw [eLq]; exact zL_nz ⟨by omega, by omega⟩ (by omega)
      have R1 := R_divisor (nb := nb) (db := db) (by_ := by_) (rs := rs) (c := c) (mi := mi) (ml := m) (lt63 hUl) (show 0 ≤ D ∧ D < 9223372036854775808 from ⟨Int.le_of_lt hDp, hDl⟩) eU eD
      have R3 := R_divisor (nb := nb) (db := db) (by_ := by_) (rs := rs) (c := c) (mi := mi) (ml := m) (u := O) (d := L) ⟨by omega, ownl⟩ ⟨Int.le_of_lt hLp, by omega⟩ eO eLq
      have RP := R_puts (nb := nb) (db := db) (by_ := by_) (rs := rs) (c := c) (mi := mi) (ml := m) hr hj hx hi (lt63 n3) ⟨pA, lA⟩ eN eA
      obtain ⟨m', p1, p2, p3, p4⟩ := ih (i + nI 1) (putL m (44 * r + j) (lU (U1 * b' - V * a') (a' * L)) (lL (U1 * b' - V * a') (a' * L))) (inc hi) (fun k hk => by
          rw [putL_62, putL_63, if_neg (iW k hk), if_neg (iW k hk)]; exact hW k hk) (fun k h1 h2 => by
          rw [putL_62, putL_63, if_neg (iR k h1), if_neg (iR k h1)]; exact hR k (Nat.le_of_succ_le h1) h2)
      refine ⟨m', g_r_clears_37 ⟨fun g => absurd g hng, fun _ => ⟨v1, fun _ => ⟨v1, v1, _, R1, nz1, v1, _, R1, nz1, v2, _, R3, nz3, v2, nzO, nzL, _, _, RP, p1⟩, fun g => absurd g hnz⟩⟩, fun k h1 h2 => ?_, fun t ht => ?_, fun a a1 a2 a3 => ?_⟩
      · by_cases e : k = j
        · have q1 := p3 (44 * r + j) iJ
          rw [e, q1.1, q1.2, putL_62, putL_63, if_pos rfl, if_pos rfl, s1, s2]
          exact ⟨rfl, rfl⟩
        · exact p2 k (by omega) h2
      · have q1 := p3 t (iT2 t ht)
        rw [q1.1, q1.2, putL_62, putL_63, if_neg (iT t ht), if_neg (iT t ht)]
        exact ⟨rfl, rfl⟩
      · rw [p4 a a1 a2 a3, putL_o _ _ _ _ a1 a2 a3]
theorem R_clears {r w col : Nat} (hr : r < 12) (hw : w < 12) (hrw : r ≠ w) (hcol : col < 44) {F1 F2 F' : Nat → Int} {S1 S2 S' : Int} (hS1 : 0 < S1) (hS2 : 0 < S2) (hS' : 0 < S') (h12 : S1 * S2 < 9223372036854775808) (hB1 : (F1 col).natAbs < 9223372036854775808) (hB2 : ∀ k, k < 44 → (F2 k).natAbs < 9223372036854775808) (hB : ∀ k, k < 44 → (F1 k).natAbs * S2.natAbs + (F1 col).natAbs * (F2 k).natAbs < 9223372036854775808) (hF : ∀ k, k < 44 → F' k * (S1 * S2) = S' * (F1 k * S2 - F1 col * F2 k))
    {x y z : Int32} (hx : x = nI r) (hy : y = nI w) (hz : z = nI col) (h1 : RW ml r F1 S1) (h2 : RW ml w F2 S2) :
    ∃ m' : ML, Ret m_r_clears [vR 19 0 48, vI x, vI y, vI z] none c (MRc nb db by_ rs) mi ml mi m' ∧ RW m' r F' S' ∧ (∀ t, t < 44 * r ∨ 44 * r + 44 ≤ t → m' 62 t = ml 62 t ∧ m' 63 t = ml 63 t) ∧ ∀ a, a ≠ 48 → a ≠ 62 → a ≠ 63 → m' a = ml a := by
  have i1 := i44 hx hz
  have c1 : (nI 44 * x + z).toNatClampNeg = 44 * r + col := cln i1 (by omega)
  have v1 : vp_in (nI 44 * x + z) 528 := ixn i1 (by omega) (by decide)
  obtain ⟨e1, e2⟩ := h1 col hcol
  by_cases h0 : F1 col = 0
  · refine ⟨ml, g_r_clears_0 ⟨v1, v1, fun g => absurd ?_ g, fun _ => ⟨rfl, rfl, rfl⟩⟩, fun k hk => ?_, fun _ _ => ⟨rfl, rfl⟩, fun _ _ _ _ => rfl⟩
    · rw [c1, e1, (lU_0 hS1).mpr h0]; rfl
    · have fj := hF k hk
      have same := lw_eq (u := F1 k) (d := S1) (x := F' k) (s := S') hS1 hS' (cancelL hS2 (by
        have : F' k * (S1 * S2) = S' * (F1 k * S2) := by rw [fj, h0, Int.zero_mul, Int.sub_zero]
        grind))
      rw [(h1 k hk).1, (h1 k hk).2, same.1, same.2]
      exact ⟨rfl, rfl⟩
  · obtain ⟨m', p1, p2, p3, p4⟩ := CL_loop (nb := nb) (db := db) (by_ := by_) (rs := rs) (c := c) (mi := mi) (z := z) hr hw hrw hS1 hS2 hS' h12 hB2 hB hF hx hy (p := ml 62 (nI 44 * x + z).toNatClampNeg) (q := ml 63 (nI 44 * x + z).toNatClampNeg) (by rw [c1, e1]) (by rw [c1, e2]) 0 (by omega) (nI 0) ml rfl h2 (fun k _ hk => h1 k hk)
    refine ⟨m', g_r_clears_0 ⟨v1, v1, fun _ => p1, fun g => absurd g ?_⟩, fun k hk => p2 k (by omega) hk, fun t ht => p3 t (by omega), p4⟩
    rw [c1, e1]
    have := lU_le (x := F1 col) hS1
    exact zL_nz (lR63 (by omega)) (fun h => h0 ((lU_0 hS1).mp h))
end
