/-! ===== masks: the reference's row of a colour; its squares ===== -/
def alB (μ : Nat → Nat) (K t k : Nat) : Bool := (List.range k).all (fun c => decide (c = PT (psS μ z0 K) t) || decide (XX (vsS μ z0 K) (psS μ z0 K) t c = 0))
theorem alB_31 (μ : Nat → Nat) (K t : Nat) : alB μ K t 31 = onR μ K t := rfl
theorem alB_s (μ : Nat → Nat) (K t k : Nat) : alB μ K t (k + 1) = (alB μ K t k && (decide (k = PT (psS μ z0 K) t) || decide (XX (vsS μ z0 K) (psS μ z0 K) t k = 0))) := by
  unfold alB
  rw [List.range_succ, List.all_append]
  simp
theorem tlB_hi {μ : Nat → Nat} {K N j : Nat} (hμ : ∀ q, q < K → μ q < 2 ^ N) (h : N ≤ j) : tlB μ K K j = false := Bool.eq_false_iff.mpr (fun g => by
  obtain ⟨q, hq, hp, -⟩ := tlB_t.mp g
  obtain ⟨h31, hne, -⟩ := pv_sp hp
  exact hne (NW_hi (fun q' hq' => hμ q' (by omega)) h h31))
theorem orB_bits {p : Nat → Bool} : ∀ j, j ≤ 31 → orB p j = nI (bitsOf (fun k => p k && decide (k < j)) 31)
  | 0, _ => by
    have : (fun k => p k && decide (k < 0)) = fun _ => false := funext fun k => by simp
    rw [this]; rfl
  | j + 1, h => by
    have ih := orB_bits (p := p) j (by omega)
    by_cases e : p j = true
    · rw [← orB_t (p := p) (i := nI j) (a := orB p j) rfl rfl e]
      refine bits_on (f := fun k => p k && decide (k < j)) (j := j) (by omega) (by omega) ?_ (fun k hk => ?_) ih rfl
      · show (p j && decide (j < j + 1)) = true
        rw [e]; simp
      · show (p k && decide (k < j + 1)) = (p k && decide (k < j))
        congr 1
        exact decide_eq_decide.mpr (by omega)
    · rw [← orB_f (p := p) (a := orB p j) rfl e, ih]
      congr 2
      funext k
      by_cases hk : k = j
      · rw [hk, Bool.eq_false_iff.mpr e]; rfl
      · congr 1
        exact decide_eq_decide.mpr (by omega)
theorem orB_all {p : Nat → Bool} {N : Nat} (hN : N ≤ 31) (h : ∀ k, N ≤ k → p k = false) : orB p N = nI (bitsOf p 31) := by
  rw [orB_bits N hN]
  congr 2
  funext k
  by_cases g : k < N
  · rw [decide_eq_true g, Bool.and_true]
  · rw [h k (by omega)]; rfl
theorem SQ_arith {X Y S : Int} (hS : 0 < S) (hSb : S ≤ 7484400) (hX : X.natAbs ≤ 7484400) (hY : Y.natAbs ≤ 1000000000000000) {a b : Int} (ea : a = lU X S * lU X S) (eb : b = lL X S * lL X S) :
    0 < lL Y (S * S) ∧ lL Y (S * S) < 9223372036854775808 ∧ 0 < b ∧ b < 9223372036854775808 ∧ ∃ a' b' : Int, (lL Y (S * S)).tdiv (gcZ (lL Y (S * S)) b) = a' ∧ (a' * b).tdiv (lL Y (S * S)) = b' ∧ (a' * b).tdiv b = a' ∧ 0 < a' * b ∧ a' * b < 9223372036854775808 ∧ (lU Y (S * S) * b' + a * a').natAbs < 9223372036854775808 ∧ lU (lU Y (S * S) * b' + a * a') (a' * b) = lU (Y + X * X) (S * S) ∧ lL (lU Y (S * S) * b' + a * a') (a' * b) = lL (Y + X * X) (S * S) := by
  have hSS : 0 < S * S := Int.mul_pos hS hS
  have hSSl : S * S ≤ 7484400 * 7484400 := Int.mul_le_mul hSb hSb (Int.le_of_lt hS) (by decide)
  have lp := lL_pos (x := X) hS
  have ll := lL_le (x := X) hS
  have own := lL_pos (x := Y) hSS
  have own2 := lL_le (x := Y) hSS
  have bp : 0 < b := by rw [eb]; exact Int.mul_pos lp lp
  have bl : b ≤ S * S := by rw [eb]; exact Int.mul_le_mul ll ll (Int.le_of_lt lp) (Int.le_of_lt hS)
  have bd : b ∣ S * S := by rw [eb]; exact Int.mul_dvd_mul lL_dvd lL_dvd
  have hAle := lcm_le own bp hSS lL_dvd bd
  obtain ⟨g, a', b', -, -, pa, pb, -, -, t1, t2, t3, t4, pA⟩ := lcm_ex own bp
  rw [t1] at hAle
  have rat1 := lw_rat (x := X) (s := S)
  have ratY := lw_rat (x := Y) (s := S * S)
  have hV : -a * (S * S) = -(X * X) * b := by rw [ea, eb]; grind
  have hnum := lw_sub (U1 := lU Y (S * S)) (L1 := lL Y (S * S)) (V := -a) (L := b) (X1 := Y) (S1 := S * S) (X2 := -(X * X)) (S2 := S * S) (Z := Y + X * X) (S := S * S) (a' := a') (b' := b') (A := a' * b) hSS hSS hSS pA t4 rfl ratY hV (by grind)
  have n1 := abs_cmp (Y := lU Y (S * S) * b') (S1 := S * S) (X1 := Y) (A := a' * b) (t := 1) hSS (by decide) (by rw [t4]; grind) pA (by rw [Int.mul_one]; exact hAle)
  have n2 := abs_cmp (Y := a * a') (S1 := S * S) (X1 := X * X) (A := a' * b) (t := 1) hSS (by decide) (by grind) pA (by rw [Int.mul_one]; exact hAle)
  rw [show (1 : Int).natAbs = 1 from rfl, Nat.mul_one] at n1 n2
  have hXX : (X * X).natAbs ≤ 7484400 * 7484400 := by rw [Int.natAbs_mul]; exact Nat.mul_le_mul hX hX
  have e : lU Y (S * S) * b' - -a * a' = lU Y (S * S) * b' + a * a' := by rw [Int.neg_mul]; omega
  rw [e] at hnum
  refine ⟨own, by omega, bp, by omega, a', b', t1, t2, t3, pA, by omega, ?_, hnum.1, hnum.2⟩
  generalize lU Y (S * S) * b' = Y1 at n1
  generalize a * a' = Y2 at n2
  clear hnum e
  omega
section
variable {nb db b : Nat} {by_ rs : RX} {c : Nat} {σ : SG} {mi mj m : MI} {ml mk l : ML} {μ : Nat → Nat} {T : Nat → Int} {i K N : Nat}
/-- rows as the reference has them, by those without looks -/
theorem RS_z {vs : List (Nat → Int)} {ps : List Nat} (hv : vs = vsS μ T K) (hp : ps = psS μ T K) (H : RSm vs ps m l) : m 48 51 = nI (rk μ K) ∧ (∀ t, t < rk μ K → m 64 t = nI (PT (psS μ z0 K) t)) ∧ ∀ t, t < rk μ K → RW l t (fun k => XX (vsS μ T K) (psS μ T K) t (cc k)) (SS (vsS μ z0 K) (psS μ z0 K)) := by
  obtain ⟨h1, h2, h3⟩ := H
  rw [hp, psS_T] at h1 h2
  refine ⟨h1, h2, fun t ht => ?_⟩
  have h4 := h3 t (by rw [hp, psS_T]; exact ht)
  rw [hv, hp, SS_T] at h4
  exact h4
theorem R_alone (hK : K ≤ 12) {t j : Nat} (ht : t < rk μ K) (hRW : RW l t (fun k => XX (vsS μ T K) (psS μ T K) t (cc k)) (SS (vsS μ z0 K) (psS μ z0 K))) (hj : PT (psS μ z0 K) t = j) {x y : Int32} (hx : x = nI t) (hy : y = nI j) : Go m_r_rowOf 28 [some (vR 19 0 48), some (vI y), some (vI x), some (vI (nI 1)), some (vI (nI 0))] [] (some (vI (if onR μ K t = true then nI t else -(nI 1)))) c (MRc nb db by_ rs) m l m l := by
  have hrk := rk_i (μ := μ) K
  have hj31 : j < 31 := by rw [← hj]; exact (mS_ok μ z0 K).2.2.2.1 _ (PT_mem ht)
  have sb := SSb (μ := μ) hK
  have key : ∀ k, k ≤ 31 → ∀ (i w : Int32), i = nI k → w = bI (alB μ K t k) → Go m_r_rowOf 28 [some (vR 19 0 48), some (vI y), some (vI x), some (vI w), some (vI i)] [] (some (vI (if onR μ K t = true then nI t else -(nI 1)))) c (MRc nb db by_ rs) m l m l := by
    refine upto ?_ ?_
    · intro i w hi hw
      rw [alB_31] at hw
      refine g_r_rowOf_28 ⟨fun _ => ⟨fun g => ⟨?_, rfl, rfl⟩, fun g => ⟨?_, rfl, rfl⟩⟩, fun g => absurd (by rw [hi]; exact Int32.le_refl _) g⟩
      · rw [hw, bI_0] at g
        rw [g, if_neg (by decide)]
      · cases h : onR μ K t with
        | true => rw [if_pos rfl, hx]
        | false => exact absurd (by rw [hw, h]; rfl) g
    · intro k hk ih i w hi hw
      have ng : ¬ nI 31 ≤ i := by rw [hi, nI_leN (by decide) (by omega)]; omega
      have es := alB_s μ K t k
      rw [hj] at es
      cases ha : alB μ K t k with
      | false =>
        rw [ha] at hw es
        rw [Bool.false_and] at es
        exact g_r_rowOf_28 ⟨fun g => absurd g ng, fun _ => ⟨fun _ => ih _ _ (inc hi) (by rw [es]; rfl), fun g => absurd (by rw [hw]; rfl) g⟩⟩
      | true =>
        rw [ha] at hw es
        rw [Bool.true_and] at es
        have nw : ¬ w = 0 := by rw [hw]; decide
        by_cases e : k = j
        · rw [decide_eq_true e, Bool.true_or] at es
          exact g_r_rowOf_28 ⟨fun g => absurd g ng, fun _ => ⟨fun g => absurd g nw, fun _ => ⟨fun _ => ih _ _ (inc hi) (by rw [es]; rfl), fun g => absurd (by rw [hi, hy, e]) g⟩⟩⟩
        · have ne : ¬ i = y := by rw [hi, hy, nI_eq (by omega) (by omega)]; exact e
          rw [decide_eq_false e, Bool.false_or] at es
          have i1 := i44 hx hi
          have hz : l 62 (nI 44 * x + i).toNatClampNeg = lN 0 ↔ XX (vsS μ z0 K) (psS μ z0 K) t k = 0 := by
            rw [cln i1 (by omega), ups_0 sb.1 hRW (by omega) (by
              show (XX (vsS μ T K) (psS μ T K) t (cc k)).natAbs < _
              rw [cc_lo hk, XX_T (by omega)]
              have := XXb (μ := μ) hK ht (show k < 43 by omega)
              omega)]
            show XX (vsS μ T K) (psS μ T K) t (cc k) = 0 ↔ _
            rw [cc_lo hk, XX_T (by omega)]
          refine g_r_rowOf_28 ⟨fun g => absurd g ng, fun _ => ⟨fun g => absurd g nw, fun _ => ⟨fun g => absurd g ne, fun _ => ⟨ixn i1 (by omega) (by decide), fun g => ih _ _ (inc hi) ?_, fun g => ih _ _ (inc hi) ?_⟩⟩⟩⟩
          · rw [es, decide_eq_false (fun h => g (hz.mpr h))]; rfl
          · rw [es, decide_eq_true (hz.mp g)]; rfl
  exact key 0 (by omega) _ _ rfl rfl
theorem R_rowOf_t (hK : K ≤ 12) (H : RSm (vsS μ T K) (psS μ T K) m l) {q j : Nat} (hq : q < K) (hp : pvO μ z0 q = some j) (ho : onR μ K (rk μ q) = true) {y : Int32} (hy : y = nI j) : Ret m_r_rowOf [vR 19 0 48, vI y] (some (vI (nI (rk μ q)))) c (MRc nb db by_ rs) m l m l := by
  obtain ⟨h1, h2, h3⟩ := RS_z rfl rfl H
  have hrk := rk_i (μ := μ) K
  have ht := rk_lt hq hp
  have ept := PT_rk K hq hp
  have hj31 := (pv_sp hp).1
  refine g_r_rowOf_0 ?_
  have key : ∀ t, t ≤ rk μ q → ∀ i : Int32, i = nI t → Go m_r_rowOf 2 [some (vR 19 0 48), some (vI y), some (vI i), none, none] [] (some (vI (nI (rk μ q)))) c (MRc nb db by_ rs) m l m l := by
    refine upto ?_ ?_
    · intro i hi
      have G := R_alone (nb := nb) (db := db) (by_ := by_) (rs := rs) (c := c) (m := m) hK ht (h3 _ ht) ept hi hy
      rw [if_pos ho] at G
      exact g_r_rowOf_2 ⟨fun g => absurd g (by rw [h1]; exact lp_g rfl hi ht (by omega)), fun _ => ⟨ixn hi (by omega) (by decide), fun _ => G, fun g => absurd (by rw [cln hi (by omega), h2 _ ht, ept, hy]) g⟩⟩
    · intro t htt ih i hi
      have hne : ¬ m 64 i.toNatClampNeg = y := by
        have h31 := (mS_ok μ z0 K).2.2.2.1 _ (PT_mem (show t < (psS μ z0 K).length from Nat.lt_trans htt ht))
        rw [cln hi (by omega), h2 t (by omega), hy, nI_eq (by omega) (by omega)]
        intro e
        have := PT_inj (show t < rk μ K by omega) ht (e.trans ept.symm)
        omega
      exact g_r_rowOf_2 ⟨fun g => absurd g (by rw [h1]; exact lp_g rfl hi (by omega) (by omega)), fun _ => ⟨ixn hi (by omega) (by decide), fun g => absurd g hne, fun _ => ih _ (inc hi)⟩⟩
  exact key 0 (Nat.zero_le _) _ rfl
theorem R_rowOf_f (hK : K ≤ 12) (H : RSm (vsS μ T K) (psS μ T K) m l) {j : Nat} (hj : j < 31) (ho : tlB μ K K j = false) {y : Int32} (hy : y = nI j) : Ret m_r_rowOf [vR 19 0 48, vI y] (some (vI (-(nI 1)))) c (MRc nb db by_ rs) m l m l := by
  obtain ⟨h1, h2, h3⟩ := RS_z rfl rfl H
  have hrk := rk_i (μ := μ) K
  refine g_r_rowOf_0 ?_
  have key : ∀ t, t ≤ rk μ K → ∀ i : Int32, i = nI t → Go m_r_rowOf 2 [some (vR 19 0 48), some (vI y), some (vI i), none, none] [] (some (vI (-(nI 1)))) c (MRc nb db by_ rs) m l m l := by
    refine upto ?_ ?_
    · intro i hi
      exact g_r_rowOf_2 ⟨fun _ => ⟨rfl, rfl, rfl⟩, fun g => absurd (by rw [h1, hi]; exact Int32.le_refl _) g⟩
    · intro t ht ih i hi
      have h31 := (mS_ok μ z0 K).2.2.2.1 _ (PT_mem (show t < (psS μ z0 K).length from ht))
      have e64 : m 64 i.toNatClampNeg = nI (PT (psS μ z0 K) t) := by rw [cln hi (by omega), h2 t ht]
      by_cases e : PT (psS μ z0 K) t = j
      · have hoff : onR μ K t = false := Bool.eq_false_iff.mpr (fun h => by
          obtain ⟨q, g1, g2, g3⟩ := PT_sj K t ht
          have : tlB μ K K j = true := tlB_t.mpr ⟨q, g1, by rw [g3, e], by rw [g2]; exact h⟩
          rw [ho] at this; cases this)
        have G := R_alone (nb := nb) (db := db) (by_ := by_) (rs := rs) (c := c) (m := m) hK ht (h3 t ht) e hi hy
        rw [hoff, if_neg (by decide)] at G
        exact g_r_rowOf_2 ⟨fun g => absurd g (by rw [h1]; exact lp_g rfl hi ht (by omega)), fun _ => ⟨ixn hi (by omega) (by decide), fun _ => G, fun g => absurd (by rw [e64, e, hy]) g⟩⟩
      · exact g_r_rowOf_2 ⟨fun g => absurd g (by rw [h1]; exact lp_g rfl hi ht (by omega)), fun _ => ⟨ixn hi (by omega) (by decide), fun g => absurd (by rw [e64, hy, nI_eq (by omega) (by omega)] at g; exact g) e, fun _ => ih _ (inc hi)⟩⟩
  exact key 0 (Nat.zero_le _) _ rfl
end
