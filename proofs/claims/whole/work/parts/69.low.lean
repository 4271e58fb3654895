/-! ===== lowest terms ===== -/
def lU (x s : Int) : Int := x.tdiv (gcZ x s)
def lL (x s : Int) : Int := s.tdiv (gcZ x s)
theorem gcZ_d1 (x s : Int) : gcZ x s ∣ x := Int.gcd_dvd_left x s
theorem gcZ_d2 (x s : Int) : gcZ x s ∣ s := Int.gcd_dvd_right x s
theorem lw_u (x s : Int) : x = gcZ x s * lU x s := (Int.mul_tdiv_cancel' (gcZ_d1 x s)).symm
theorem lw_l (x s : Int) : s = gcZ x s * lL x s := (Int.mul_tdiv_cancel' (gcZ_d2 x s)).symm
theorem pos_of {g l : Int} (hg : 0 < g) (h : 0 < g * l) : 0 < l := by
  rcases Int.lt_or_le 0 l with z | z
  · exact z
  · have := Int.mul_le_mul_of_nonneg_left z (Int.le_of_lt hg)
    rw [Int.mul_zero] at this
    omega
theorem lL_pos {x s : Int} (hs : 0 < s) : 0 < lL x s := by
  have h := lw_l x s
  have hg := (gcZ_bd (u := x) hs).1
  exact pos_of hg (by rw [← h]; exact hs)
theorem lw_rat {x s : Int} : lU x s * s = x * lL x s := by
  have h1 := lw_u x s
  have h2 := lw_l x s
  generalize lU x s = U at *
  generalize lL x s = L at *
  generalize gcZ x s = g at *
  rw [h1, h2]; grind
theorem abs_mul_le {g u : Int} (hg : 0 < g) : u.natAbs ≤ (g * u).natAbs := by
  rw [Int.natAbs_mul]
  have : 1 ≤ g.natAbs := by omega
  calc u.natAbs = 1 * u.natAbs := (Nat.one_mul _).symm
    _ ≤ g.natAbs * u.natAbs := Nat.mul_le_mul_right _ this
theorem lU_le {x s : Int} (hs : 0 < s) : (lU x s).natAbs ≤ x.natAbs := by
  have h1 := lw_u x s
  have hg := (gcZ_bd (u := x) hs).1
  have := abs_mul_le (u := lU x s) hg
  rw [← h1] at this; exact this
theorem lL_le {x s : Int} (hs : 0 < s) : lL x s ≤ s := by
  have h1 := lw_l x s
  have hg := (gcZ_bd (u := x) hs).1
  have := abs_mul_le (u := lL x s) hg
  rw [← h1] at this
  have := lL_pos (x := x) hs
  omega
theorem lL_dvd {x s : Int} : lL x s ∣ s := ⟨gcZ x s, by rw [Int.mul_comm]; exact lw_l x s⟩
theorem lU_0 {x s : Int} (hs : 0 < s) : lU x s = 0 ↔ x = 0 := by
  have h1 := lw_u x s
  constructor
  · intro h; rw [h, Int.mul_zero] at h1; exact h1
  · intro h
    have hg := (gcZ_bd (u := x) hs).1
    rw [h] at h1
    rcases Int.mul_eq_zero.mp h1.symm with z | z
    · rw [h] at hg; omega
    · rw [h]; exact z
theorem cancelL {a b c : Int} (ha : 0 < a) (h : a * b = a * c) : b = c := Int.eq_of_mul_eq_mul_left (by omega) h
theorem lw_eq {u d x s : Int} (hd : 0 < d) (hs : 0 < s) (h : u * s = x * d) : lU u d = lU x s ∧ lL u d = lL x s := by
  have hg1 := (gcZ_bd (u := u) hd).1
  have hg2 := (gcZ_bd (u := x) hs).1
  have e : gcZ u d * s = gcZ x s * d := by
    have h1 : u.natAbs * s.natAbs = x.natAbs * d.natAbs := by rw [← Int.natAbs_mul, ← Int.natAbs_mul, h]
    have h2 : Nat.gcd u.natAbs d.natAbs * s.natAbs = Nat.gcd x.natAbs s.natAbs * d.natAbs := by
      rw [← Nat.gcd_mul_right, ← Nat.gcd_mul_right, h1, Nat.mul_comm d.natAbs]
    have es : s = (s.natAbs : Int) := by omega
    have ed : d = (d.natAbs : Int) := by omega
    unfold gcZ
    rw [es, ed, Int.natAbs_natCast, Int.natAbs_natCast, ← Int.natCast_mul, ← Int.natCast_mul, h2]
  have u1 := lw_u u d
  have l1 := lw_l u d
  have u2 := lw_u x s
  have l2 := lw_l x s
  have p2 := lL_pos (x := x) hs
  generalize lU u d = U1 at *
  generalize lL u d = L1 at *
  generalize lU x s = U2 at *
  generalize lL x s = L2 at *
  generalize gcZ u d = g at *
  generalize gcZ x s = k at *
  have hgk : 0 < g * k := Int.mul_pos hg1 hg2
  have eL : L1 = L2 := by
    rw [l1, l2] at e
    refine cancelL hgk ?_
    grind
  subst eL
  refine ⟨?_, rfl⟩
  rw [u1, u2, l2, l1] at h
  have hgl : 0 < g * k * L1 := Int.mul_pos hgk p2
  refine cancelL hgl ?_
  grind
/-- the least that both go into, as the reference finds it -/
theorem lcm_ex {a b : Int} (ha : 0 < a) (hb : 0 < b) : ∃ g a' b' : Int, g = gcZ a b ∧ 0 < g ∧ 0 < a' ∧ 0 < b' ∧ a = g * a' ∧ b = g * b' ∧ a.tdiv (gcZ a b) = a' ∧ (a' * b).tdiv a = b' ∧ (a' * b).tdiv b = a' ∧ a' * b = a * b' ∧ 0 < a' * b := by
  have hg := (gcZ_bd (u := a) hb).1
  obtain ⟨a', ea⟩ := gcZ_d1 a b
  obtain ⟨b', eb⟩ := gcZ_d2 a b
  have pa : 0 < a' := pos_of hg (by rw [← ea]; exact ha)
  have pb : 0 < b' := pos_of hg (by rw [← eb]; exact hb)
  have e : a' * b = a * b' := by
    generalize gcZ a b = g at *
    rw [ea, eb]; grind
  refine ⟨gcZ a b, a', b', rfl, hg, pa, pb, ea, eb, ?_, ?_, ?_, e, Int.mul_pos pa hb⟩
  · generalize gcZ a b = g at *
    rw [ea]; exact Int.mul_tdiv_cancel_left _ (by omega)
  · rw [e]; exact Int.mul_tdiv_cancel_left _ (by omega)
  · exact Int.mul_tdiv_cancel _ (by omega)
theorem lcm_le {a b M : Int} (ha : 0 < a) (hb : 0 < b) (hM : 0 < M) (h1 : a ∣ M) (h2 : b ∣ M) : a.tdiv (gcZ a b) * b ≤ M := by
  obtain ⟨g, a', b', eg, pg, pa, pb, ea, eb, e1, -, -, -, -⟩ := lcm_ex ha hb
  rw [e1]
  have h3 : Nat.lcm a.natAbs b.natAbs ∣ M.natAbs := Nat.lcm_dvd (Int.natAbs_dvd_natAbs.mpr h1) (Int.natAbs_dvd_natAbs.mpr h2)
  have h4 := Nat.le_of_dvd (by omega) h3
  have h5 : Nat.gcd a.natAbs b.natAbs * Nat.lcm a.natAbs b.natAbs = a.natAbs * b.natAbs := Nat.gcd_mul_lcm _ _
  have h6 : (Nat.gcd a.natAbs b.natAbs : Int) = g := by rw [eg]; rfl
  have h7 : g.natAbs * (a'.natAbs * b.natAbs) = g.natAbs * Nat.lcm a.natAbs b.natAbs := by
    have e2 : Nat.gcd a.natAbs b.natAbs = g.natAbs := by rw [← h6, Int.natAbs_natCast]
    rw [← e2, h5, e2, ← Nat.mul_assoc, ← Int.natAbs_mul, ← ea]
  have h8 := Nat.eq_of_mul_eq_mul_left (show 0 < g.natAbs by omega) h7
  have h9 : (a' * b).natAbs = a'.natAbs * b.natAbs := Int.natAbs_mul _ _
  have := Int.mul_pos pa hb
  omega
/-- one fraction less another -/
theorem lw_sub {U1 L1 V L X1 S1 X2 S2 Z S a' b' A : Int} (hS1 : 0 < S1) (hS2 : 0 < S2) (hS : 0 < S) (hA : 0 < A) (e1 : A = L1 * b') (e2 : A = a' * L) (h1 : U1 * S1 = X1 * L1) (h2 : V * S2 = X2 * L) (hZ : Z * (S1 * S2) = S * (X1 * S2 - X2 * S1)) : lU (U1 * b' - V * a') A = lU Z S ∧ lL (U1 * b' - V * a') A = lL Z S := by
  refine lw_eq hA hS ?_
  have hp : 0 < S1 * S2 := Int.mul_pos hS1 hS2
  refine cancelL hp ?_
  have k1 : U1 * b' * (S1 * S2) = X1 * S2 * A := by grind
  have k2 : V * a' * (S1 * S2) = X2 * S1 * A := by grind
  grind
theorem abs_cmp {Y S1 X1 A t : Int} (hS1 : 0 < S1) (ht : 0 ≤ t) (h : Y * S1 = X1 * A) (hA : 0 < A) (hM : A ≤ S1 * t) : Y.natAbs ≤ X1.natAbs * t.natAbs := by
  have h1 : Y.natAbs * S1.natAbs = X1.natAbs * A.natAbs := by rw [← Int.natAbs_mul, ← Int.natAbs_mul, h]
  have h2 : A.natAbs ≤ S1.natAbs * t.natAbs := by rw [← Int.natAbs_mul]; omega
  have h3 : Y.natAbs * S1.natAbs ≤ X1.natAbs * t.natAbs * S1.natAbs := by
    rw [h1]
    calc X1.natAbs * A.natAbs ≤ X1.natAbs * (S1.natAbs * t.natAbs) := Nat.mul_le_mul_left _ h2
      _ = X1.natAbs * t.natAbs * S1.natAbs := by rw [Nat.mul_comm S1.natAbs, Nat.mul_assoc]
  exact Nat.le_of_mul_le_mul_right h3 (by omega)
