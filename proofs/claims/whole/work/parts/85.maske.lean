/-! ===== masks: the calls shareBy, fewer ===== -/
def sqZ (μ : Nat → Nat) (K t : Nat) : Int := sumZ (fun k => XX (vsS μ z0 K) (psS μ z0 K) t (31 + k) * XX (vsS μ z0 K) (psS μ z0 K) t (31 + k)) K
theorem sqZ_bd {μ : Nat → Nat} {K t : Nat} (hK : K ≤ 12) (ht : t < rk μ K) : (sqZ μ K t).natAbs ≤ 672194920320000 := by
  have xb : ∀ k, k < K → (XX (vsS μ z0 K) (psS μ z0 K) t (31 + k)).natAbs ≤ 7484400 := fun k hk => XXb hK ht (by omega)
  have yb : ∀ j, j ≤ K → (sumZ (fun k => XX (vsS μ z0 K) (psS μ z0 K) t (31 + k) * XX (vsS μ z0 K) (psS μ z0 K) t (31 + k)) j).natAbs ≤ j * 56016243360000 := by
    intro j
    induction j with
    | zero => intro _; exact Nat.le_refl 0
    | succ j ih =>
      intro hj
      have h1 := ih (by omega)
      have h2 : (XX (vsS μ z0 K) (psS μ z0 K) t (31 + j) * XX (vsS μ z0 K) (psS μ z0 K) t (31 + j)).natAbs ≤ 7484400 * 7484400 := by rw [Int.natAbs_mul]; exact Nat.mul_le_mul (xb j (by omega)) (xb j (by omega))
      show (sumZ _ j + XX (vsS μ z0 K) (psS μ z0 K) t (31 + j) * XX (vsS μ z0 K) (psS μ z0 K) t (31 + j)).natAbs ≤ _
      rw [Nat.succ_mul]
      omega
  have h := yb K (Nat.le_refl K)
  have : K * 56016243360000 ≤ 12 * 56016243360000 := Nat.mul_le_mul_right _ hK
  unfold sqZ
  omega
theorem cmp_fr {u l Y S2 a b : Int} (hl : 0 < l) (hS : 0 < S2) (h : u * S2 = Y * l) : b * l ≤ u * a ↔ b * S2 ≤ Y * a := by
  have e1 : b * l * S2 = b * S2 * l := by grind
  have e2 : u * a * S2 = Y * a * l := by grind
  constructor
  · intro g
    have := Int.mul_le_mul_of_nonneg_right g (Int.le_of_lt hS)
    rw [e1, e2] at this
    exact Int.le_of_mul_le_mul_right this hl
  · intro g
    have := Int.mul_le_mul_of_nonneg_right g (Int.le_of_lt hl)
    rw [← e1, ← e2] at this
    exact Int.le_of_mul_le_mul_right this hS
section
variable {nb db b : Nat} {by_ rs : RX} {c : Nat} {σ : SG} {mi mj m : MI} {ml mk l : ML} {x y z : Int32}
theorem A_shareBy (hb : nb = 43 ∧ db = 5 ∨ nb = 5 ∧ db = 43) (I : IC σ nb mi) (M : RCm σ mi ml) (J : IR σ mj) : Agr m_w_shareBy m_r_shareBy [vI x, vI y] nb db by_ rs mi ml mj mk := by
  obtain ⟨hW, hs, hB⟩ := J
  have em1 : vL (-(lN 1)) = vL ((-(nI 1)).toInt64) := by decide
  by_cases h : InK σ 5 x
  · obtain ⟨j, rfl, hj⟩ := h.nat
    have hj31 := InK.n31 hW hj
    have hr := h.1
    have hbb := hbb_of hb
    have hK := kS_12 hW
    have HT := fun c => R_ht (nb := nb) (db := db) (by_ := by_) (rs := rs) (c := c) (ml := ml) hb hW I.2.1.1 (fun z => (I.2.2 z).1) h rfl hj31 (M hr).2.1
    intro c
    obtain ⟨m', l', L1, L2, L3⟩ := LAYS (nb := nb) (db := db) (by_ := by_) (rs := rs) (c := c) (mk := mk) hW hr hs hB
    have HI := R_is_t (nb := nb) (db := db) (by_ := by_) (rs := rs) (c := c) (mk := mk) hW (RMs_th hs (nI 0)) h
    cases e : tlB (muS σ) (kS σ) (kS σ) j with
    | false =>
      have HT := HT c
      rw [e, if_neg (by decide)] at HT
      exact ⟨vL (-(lN 1)), 5, _, _, l', by decide, by decide, g_w_shareBy_0 hb ⟨_, _, _, HT, fun g => absurd rfl g, fun _ => ⟨rfl, rfl, rfl⟩⟩, g_r_shareBy_0 ⟨_, HI, fun _ => ⟨_, _, L1, _, R_rowOf_f hK L2.1 hj31 e rfl, fun g => absurd rfl g, fun _ => ⟨congrArg some em1, rfl, rfl⟩⟩, fun g => absurd g n10⟩, FCw.one _ _, FRw.ag L2.2.2 5, FLw.of3 L3, rfl⟩
    | true =>
      have HT := HT c
      rw [e, if_pos rfl] at HT
      obtain ⟨q, q1, q2, q3, q4⟩ := (M hr).2.2 j hj31 e
      have hrk := rk_lt q1 q2
      have hrk2 := rk_i (μ := muS σ) (kS σ)
      have sb := SSb (μ := muS σ) hK
      have hBn := (I.2.2 hr).w hbb (nI 0)
      have h4 : u2 mi 1 9 (nI 0) nb 4 = nI (kS σ) := by rw [hBn.2.2.2.2.1, kS_z hW]
      have hM := ((M hr).1.2.2 q q1).1 j q2
      have e20 : u2 mi 1 9 (nI 0) 20 (nI j).toNatClampNeg = nI q := by rw [u2_o _ _ (by decide), cl31 hj31, q4]
      have hsq := R_squares (nb := nb) (db := db) (by_ := by_) (rs := rs) (c := c) (mi := u2 mi 1 9 (nI 0)) (ml := ml) (F := fun k => XX (vsS (muS σ) z0 (kS σ)) (psS (muS σ) z0 (kS σ)) (rk (muS σ) q) (31 + k)) hbb h4 hK (show q < 12 by omega) (fun k hk => hM.2 (31 + k) (by omega)) e20
      have sqb := sqZ_bd hK hrk
      have hSSl : SS (vsS (muS σ) z0 (kS σ)) (psS (muS σ) z0 (kS σ)) * SS (vsS (muS σ) z0 (kS σ)) (psS (muS σ) z0 (kS σ)) ≤ 7484400 * 7484400 := Int.mul_le_mul sb.2 sb.2 (Int.le_of_lt sb.1) (by decide)
      have hSSp := Int.mul_pos sb.1 sb.1
      have hpart := R_part (nb := nb) (db := db) (by_ := by_) (rs := rs) (c := c) (mi := u2 mi 1 9 (nI 0)) (ml := ml) (u := sqZ (muS σ) (kS σ) (rk (muS σ) q)) (d := SS (vsS (muS σ) z0 (kS σ)) (psS (muS σ) z0 (kS σ)) * SS (vsS (muS σ) z0 (kS σ)) (psS (muS σ) z0 (kS σ))) (a := zL (sqZ (muS σ) (kS σ) (rk (muS σ) q))) (e := ml 19 2 * ml 19 2) ⟨by omega, by omega⟩ ⟨hSSp, by omega⟩ rfl (by rw [(M hr).1.1, zL_mul]) (lower := y)
      obtain ⟨-, -, hrows⟩ := RS_z rfl rfl L2.1
      obtain ⟨l2, w1, w2, w3, w4⟩ := R_squaresOf (nb := nb) (db := db) (by_ := by_) (rs := rs) (c := c) (m := m') (l := l') hK (by rw [L2.2.2.2 9 (by decide) (by decide)]; exact (RT.of hW hs hB).1) hrk (hrows (rk (muS σ) q) hrk) (x := nI (rk (muS σ) q)) rfl
      refine ⟨vL (frL (sqZ (muS σ) (kS σ) (rk (muS σ) q)) (SS (vsS (muS σ) z0 (kS σ)) (psS (muS σ) z0 (kS σ)) * SS (vsS (muS σ) z0 (kS σ)) (psS (muS σ) z0 (kS σ))) y), 0, _, _, _, by decide, by decide, g_w_shareBy_0 hb ⟨_, _, _, HT, fun _ => ⟨in31 hj31, _, hsq, _, hpart, rfl, rfl, rfl⟩, fun g => absurd g (by decide)⟩, g_r_shareBy_0 ⟨_, HI, fun _ => ⟨_, _, L1, _, R_rowOf_t hK L2.1 q1 q2 q3 rfl, fun _ => ⟨_, _, w1, fun g => ⟨?_, rfl, rfl⟩, fun g => ⟨?_, rfl, rfl⟩⟩, fun g => absurd g (nI_m1 (by omega))⟩, fun g => absurd g n10⟩, FCw.one _ _, FRw.ag L2.2.2 0, FL48 L3 w4, rfl⟩
      · rw [frL_0 g, w2]; rfl
      · rw [frL_1 g, w3]; rfl
  · exact Agr.mk (vL (-(lN 1))) 1 (by decide) (fun c => g_w_shareBy_0 hb ⟨_, _, _, R_ht_n hb hW I.2.1.1 (fun z => (I.2.2 z).1) h, fun g => absurd rfl g, fun _ => ⟨rfl, rfl, rfl⟩⟩) (fun c => g_r_shareBy_0 ⟨_, R_is_f hW (RMs_th hs _) h, fun g => absurd rfl g, fun _ => ⟨congrArg some em1, rfl, rfl⟩⟩)
def fwB (μ : Nat → Nat) (K : Nat) (n : Int) (j : Nat) : Bool := (List.range K).any (fun q => decide (pvO μ z0 q = some j) && onR μ K (rk μ q) && decide (¬ 4 * n * (SS (vsS μ z0 K) (psS μ z0 K) * SS (vsS μ z0 K) (psS μ z0 K)) ≤ sqZ μ K (rk μ q) * ((n + 1) * (n + 1))))
theorem fwB_f {μ : Nat → Nat} {K : Nat} {n : Int} {j : Nat} (h : tlB μ K K j = false) : ¬ fwB μ K n j = true := fun g => by
  unfold fwB at g
  rw [List.any_eq_true] at g
  obtain ⟨q, h1, h2⟩ := g
  rw [Bool.and_eq_true, Bool.and_eq_true, decide_eq_true_eq] at h2
  have : tlB μ K K j = true := tlB_t.mpr ⟨q, List.mem_range.mp h1, h2.1.1, h2.1.2⟩
  rw [h] at this; cases this
theorem fwB_t {μ : Nat → Nat} {K : Nat} {n : Int} {j q : Nat} (hq : q < K) (hp : pvO μ z0 q = some j) (ho : onR μ K (rk μ q) = true) : fwB μ K n j = true ↔ ¬ 4 * n * (SS (vsS μ z0 K) (psS μ z0 K) * SS (vsS μ z0 K) (psS μ z0 K)) ≤ sqZ μ K (rk μ q) * ((n + 1) * (n + 1)) := by
  unfold fwB
  rw [List.any_eq_true]
  constructor
  · rintro ⟨q', h1, h2⟩
    rw [Bool.and_eq_true, Bool.and_eq_true, decide_eq_true_eq, decide_eq_true_eq] at h2
    have := pv_inj (List.mem_range.mp h1) hq h2.1.1 hp
    rw [← this]; exact h2.2
  · intro h
    exact ⟨q, List.mem_range.mpr hq, by rw [Bool.and_eq_true, Bool.and_eq_true, decide_eq_true_eq, decide_eq_true_eq]; exact ⟨⟨hp, ho⟩, h⟩⟩
theorem A_fewer (hb : nb = 43 ∧ db = 5 ∨ nb = 5 ∧ db = 43) (I : IC σ nb mi) (M : RCm σ mi ml) (J : IR σ mj) : Agr m_w_fewer m_r_fewer [] nb db by_ rs mi ml mj mk := by
  obtain ⟨hW, hs, hB⟩ := J
  by_cases hr : σ 0 0 = 1
  · have e1 : ¬ mi 1 8 = 0 := by rw [I.2.1.1, hr]; decide
    have e2 : ¬ mj 48 26 = 0 := by rw [hs.rd, hr]; decide
    have hbb := hbb_of hb
    have hK := kS_12 hW
    obtain ⟨N, hn, h31⟩ := wf_n hW
    have hBn := (I.2.2 hr).w hbb (nI 0)
    have h0 := hBn.n hn
    have h4 : u2 mi 1 9 (nI 0) nb 4 = nI (kS σ) := by rw [hBn.2.2.2.2.1, kS_z hW]
    have sb := SSb (μ := muS σ) hK
    have hSSl : SS (vsS (muS σ) z0 (kS σ)) (psS (muS σ) z0 (kS σ)) * SS (vsS (muS σ) z0 (kS σ)) (psS (muS σ) z0 (kS σ)) ≤ 7484400 * 7484400 := Int.mul_le_mul sb.2 sb.2 (Int.le_of_lt sb.1) (by decide)
    have hSSp := Int.mul_pos sb.1 sb.1
    have hN2 : ((N : Int) + 1) * (N + 1) ≤ 1024 := by
      have : ((N : Int) + 1) * (N + 1) ≤ 32 * 32 := Int.mul_le_mul (by omega) (by omega) (by omega) (by decide)
      omega
    have hN2p : 0 < ((N : Int) + 1) * (N + 1) := Int.mul_pos (by omega) (by omega)
    have nl : (mi nb 0 + nI 1).toInt64 = zL ((N : Int) + 1) := by rw [(I.2.2 hr).n hn, nI_add, nI_z, zI_l ⟨by omega, by omega⟩]; rfl
    have n0 : (mi nb 0).toInt64 = zL (N : Int) := by rw [(I.2.2 hr).n hn, nI_z, zI_l ⟨by omega, by omega⟩]
    intro c
    obtain ⟨m', l', L1, L2, L3⟩ := LAYS (nb := nb) (db := db) (by_ := by_) (rs := rs) (c := c) (mk := mk) hW hr hs hB
    have h5 : m' 48 5 = nI N := by rw [L2.2.2.2 5 (by decide) (by decide)]; exact hs.n hn
    have h9 : m' 48 9 = nI (kS σ) := by rw [L2.2.2.2 9 (by decide) (by decide)]; exact (RT.of hW hs hB).1
    have r5 : (m' 48 5).toInt64 = zL (N : Int) := by rw [h5, nI_z, zI_l ⟨by omega, by omega⟩]
    have prod : ∀ t, t < rk (muS σ) (kS σ) → (sqZ (muS σ) (kS σ) t * (((N : Int) + 1) * (N + 1))).natAbs ≤ 672194920320000 * 1024 := fun t ht => by
      rw [Int.natAbs_mul]
      exact Nat.mul_le_mul (sqZ_bd hK ht) (by omega)
    have bnd : 0 ≤ 4 * (N : Int) * (SS (vsS (muS σ) z0 (kS σ)) (psS (muS σ) z0 (kS σ)) * SS (vsS (muS σ) z0 (kS σ)) (psS (muS σ) z0 (kS σ))) ∧ 4 * (N : Int) * (SS (vsS (muS σ) z0 (kS σ)) (psS (muS σ) z0 (kS σ)) * SS (vsS (muS σ) z0 (kS σ)) (psS (muS σ) z0 (kS σ))) ≤ 124 * (7484400 * 7484400) := by
      refine ⟨Int.mul_nonneg (by omega) (Int.le_of_lt hSSp), Int.mul_le_mul (by omega) hSSl (Int.le_of_lt hSSp) (by decide)⟩
    -- the class
    have keyC : ∀ j, j ≤ N → ∀ (i a : Int32), i = nI j → a = orB (fwB (muS σ) (kS σ) N) j → Go m_w_fewer 43 [some (vR 10 0 1), some (vL (zL (4 * (N : Int) * (SS (vsS (muS σ) z0 (kS σ)) (psS (muS σ) z0 (kS σ)) * SS (vsS (muS σ) z0 (kS σ)) (psS (muS σ) z0 (kS σ)))))), none, some (vI a), some (vI i)] [] (some (vI (orB (fwB (muS σ) (kS σ) N) N))) c (MRc nb db by_ rs) (u2 mi 1 9 (nI 0)) ml (u2 mi 1 9 (nI 0)) ml := by
      refine upto ?_ ?_
      · intro i a hi ha
        exact g_w_fewer_43 hb ⟨fun _ => ⟨by rw [ha], rfl, rfl⟩, fun g => absurd (lp_d h0 hi) g⟩
      · intro j hj ih i a hi ha
        have nx0 : ¬ i < 0 := by rw [hi]; exact fun g => absurd ((nI_ltI (by omega) (by decide)).mp (show nI j < nI 0 from g)) (by omega)
        have n31 : ¬ nI 31 ≤ i := by rw [hi, nI_leN (by decide) (by omega)]; omega
        have eb : (u2 mi 1 9 (nI 0) 19 1 >>> (i &&& 31)) &&& nI 1 = nI (bt (bitsOf (tlB (muS σ) (kS σ) (kS σ)) 31) j) := bit_i (show u2 mi 1 9 (nI 0) 19 1 = _ from (M hr).2.1) hi (bitsOf_lt _ 31) (by omega)
        rw [bt_bits (by omega)] at eb
        cases e : tlB (muS σ) (kS σ) (kS σ) j with
        | false =>
          rw [e, if_neg (by decide)] at eb
          exact g_w_fewer_43 hb ⟨fun g => absurd g (lp_g h0 hi hj (by omega)), fun _ => ⟨fun g => absurd g nx0, fun _ => ⟨fun g => absurd g n31, fun _ => ⟨fun _ => ih _ _ (inc hi) (orB_f ha (fwB_f e)), fun g => absurd (eb.symm.trans g) (by decide)⟩⟩⟩⟩
        | true =>
          rw [e, if_pos rfl] at eb
          obtain ⟨q, q1, q2, q3, q4⟩ := (M hr).2.2 j (by omega) e
          have hrk := rk_lt q1 q2
          have hM := ((M hr).1.2.2 q q1).1 j q2
          have e20 : u2 mi 1 9 (nI 0) 20 i.toNatClampNeg = nI q := by rw [u2_o _ _ (by decide), cln hi (by omega), q4]
          have hsq := R_squares (nb := nb) (db := db) (by_ := by_) (rs := rs) (c := c) (mi := u2 mi 1 9 (nI 0)) (ml := ml) (F := fun k => XX (vsS (muS σ) z0 (kS σ)) (psS (muS σ) z0 (kS σ)) (rk (muS σ) q) (31 + k)) hbb h4 hK (show q < 12 by omega) (fun k hk => hM.2 (31 + k) (by omega)) e20
          have hsq : Ret m_mt_squares [vR 16 0 19, vR 13 0 nb, vI (u2 mi 1 9 (nI 0) 20 i.toNatClampNeg)] (some (vL (zL (sqZ (muS σ) (kS σ) (rk (muS σ) q))))) c (MRc nb db by_ rs) (u2 mi 1 9 (nI 0)) ml (u2 mi 1 9 (nI 0)) ml := hsq
          have hp := prod _ hrk
          have ecmp : zL (4 * (N : Int) * (SS (vsS (muS σ) z0 (kS σ)) (psS (muS σ) z0 (kS σ)) * SS (vsS (muS σ) z0 (kS σ)) (psS (muS σ) z0 (kS σ)))) ≤ zL (sqZ (muS σ) (kS σ) (rk (muS σ) q)) * ((u2 mi 1 9 (nI 0) nb 0 + nI 1).toInt64 * (u2 mi 1 9 (nI 0) nb 0 + nI 1).toInt64) ↔ 4 * (N : Int) * (SS (vsS (muS σ) z0 (kS σ)) (psS (muS σ) z0 (kS σ)) * SS (vsS (muS σ) z0 (kS σ)) (psS (muS σ) z0 (kS σ))) ≤ sqZ (muS σ) (kS σ) (rk (muS σ) q) * (((N : Int) + 1) * (N + 1)) := by
            rw [u2_o _ _ (show nb ≠ 1 by omega), nl, zL_mul, zL_mul, zL_le ⟨by omega, by omega⟩ (lR63 (by omega))]
          refine g_w_fewer_43 hb ⟨fun g => absurd g (lp_g h0 hi hj (by omega)), fun _ => ⟨fun g => absurd g nx0, fun _ => ⟨fun g => absurd g n31, fun _ => ⟨fun g => absurd eb g, fun _ => ⟨ixn hi (by omega) (by decide), _, hsq, fun g => ih _ _ (inc hi) (orB_f ha (fun h => (fwB_t q1 q2 q3).mp h (ecmp.mp g))), fun g => ih _ _ (inc hi) (orB_t hi ha ((fwB_t q1 q2 q3).mpr (fun h => g (ecmp.mpr h))))⟩⟩⟩⟩⟩
    -- the reference
    have keyR : ∀ j, j ≤ N → ∀ (i a : Int32) (l1 : ML), i = nI j → a = orB (fwB (muS σ) (kS σ) N) j → (∀ a, a ≠ 48 → l1 a = l' a) → ∃ l2 : ML, Go m_r_fewer 26 [some (vR 19 0 48), some (vI a), some (vI i), none] [] (some (vI (orB (fwB (muS σ) (kS σ) N) N))) c (MRc nb db by_ rs) m' l1 (u2 (u2 m' 48 1 (nI 0)) 48 2 (-(nI 1))) l2 ∧ ∀ a, a ≠ 48 → l2 a = l' a := by
      refine upto ?_ ?_
      · intro i a l1 hi ha hl
        exact ⟨l1, g_r_fewer_26 ⟨fun _ => ⟨by rw [ha], rfl, rfl⟩, fun g => absurd (lp_d h5 hi) g⟩, hl⟩
      · intro j hj ih i a l1 hi ha hl
        have H1 : RSm (vsS (muS σ) (thT σ) (kS σ)) (psS (muS σ) (thT σ) (kS σ)) m' l1 := ⟨L2.1.1, L2.1.2.1, fun t ht k hk => by rw [hl 62 (by decide), hl 63 (by decide)]; exact L2.1.2.2 t ht k hk⟩
        cases e : tlB (muS σ) (kS σ) (kS σ) j with
        | false =>
          obtain ⟨l2, s1, s2⟩ := ih (i + nI 1) a l1 (inc hi) (orB_f ha (fwB_f e)) hl
          exact ⟨l2, g_r_fewer_26 ⟨fun g => absurd g (lp_g h5 hi hj (by omega)), fun _ => ⟨_, R_rowOf_f hK H1 (by omega) e hi, fun g => absurd rfl g, fun _ => s1⟩⟩, s2⟩
        | true =>
          obtain ⟨q, q1, q2, q3⟩ := tlB_t.mp e
          have hrk := rk_lt q1 q2
          have hrk2 := rk_i (μ := muS σ) (kS σ)
          obtain ⟨-, -, hrows⟩ := RS_z rfl rfl H1
          obtain ⟨l3, w1, w2, w3, w4⟩ := R_squaresOf (nb := nb) (db := db) (by_ := by_) (rs := rs) (c := c) (m := m') (l := l1) hK h9 hrk (hrows (rk (muS σ) q) hrk) (x := nI (rk (muS σ) q)) rfl
          have w2 : l3 48 3 = zL (lU (sqZ (muS σ) (kS σ) (rk (muS σ) q)) (SS (vsS (muS σ) z0 (kS σ)) (psS (muS σ) z0 (kS σ)) * SS (vsS (muS σ) z0 (kS σ)) (psS (muS σ) z0 (kS σ)))) := w2
          have w3 : l3 48 4 = zL (lL (sqZ (muS σ) (kS σ) (rk (muS σ) q)) (SS (vsS (muS σ) z0 (kS σ)) (psS (muS σ) z0 (kS σ)) * SS (vsS (muS σ) z0 (kS σ)) (psS (muS σ) z0 (kS σ)))) := w3
          have sqb := sqZ_bd hK hrk
          have lu := lU_le (x := sqZ (muS σ) (kS σ) (rk (muS σ) q)) hSSp
          have lp := lL_pos (x := sqZ (muS σ) (kS σ) (rk (muS σ) q)) hSSp
          have ll := lL_le (x := sqZ (muS σ) (kS σ) (rk (muS σ) q)) hSSp
          have p1 : (lU (sqZ (muS σ) (kS σ) (rk (muS σ) q)) (SS (vsS (muS σ) z0 (kS σ)) (psS (muS σ) z0 (kS σ)) * SS (vsS (muS σ) z0 (kS σ)) (psS (muS σ) z0 (kS σ))) * (((N : Int) + 1) * (N + 1))).natAbs ≤ 672194920320000 * 1024 := by
            rw [Int.natAbs_mul]; exact Nat.mul_le_mul (by omega) (by omega)
          have p2 : (4 * (N : Int) * lL (sqZ (muS σ) (kS σ) (rk (muS σ) q)) (SS (vsS (muS σ) z0 (kS σ)) (psS (muS σ) z0 (kS σ)) * SS (vsS (muS σ) z0 (kS σ)) (psS (muS σ) z0 (kS σ)))).natAbs ≤ 124 * (7484400 * 7484400) := by
            rw [Int.natAbs_mul]; exact Nat.mul_le_mul (by omega) (by omega)
          have ecmp : lN 4 * (m' 48 5).toInt64 * l3 48 4 ≤ l3 48 3 * (((m' 48 5).toInt64 + lN 1) * ((m' 48 5).toInt64 + lN 1)) ↔ 4 * (N : Int) * (SS (vsS (muS σ) z0 (kS σ)) (psS (muS σ) z0 (kS σ)) * SS (vsS (muS σ) z0 (kS σ)) (psS (muS σ) z0 (kS σ))) ≤ sqZ (muS σ) (kS σ) (rk (muS σ) q) * (((N : Int) + 1) * (N + 1)) := by
            rw [r5, w2, w3, show lN 4 = zL 4 from rfl, show lN 1 = zL 1 from rfl, zL_mul, zL_mul, zL_add, zL_mul, zL_mul, zL_le (lR63 (Nat.lt_of_le_of_lt p2 (by decide))) (lR63 (Nat.lt_of_le_of_lt p1 (by decide)))]
            exact cmp_fr lp hSSp lw_rat
          have hl3 : ∀ a, a ≠ 48 → l3 a = l' a := fun a ha => by rw [w4 a ha, hl a ha]
          by_cases hc : 4 * (N : Int) * (SS (vsS (muS σ) z0 (kS σ)) (psS (muS σ) z0 (kS σ)) * SS (vsS (muS σ) z0 (kS σ)) (psS (muS σ) z0 (kS σ))) ≤ sqZ (muS σ) (kS σ) (rk (muS σ) q) * (((N : Int) + 1) * (N + 1))
          · obtain ⟨l2, s1, s2⟩ := ih (i + nI 1) a l3 (inc hi) (orB_f ha (fun h => (fwB_t q1 q2 q3).mp h hc)) hl3
            exact ⟨l2, g_r_fewer_26 ⟨fun g => absurd g (lp_g h5 hi hj (by omega)), fun _ => ⟨_, R_rowOf_t hK H1 q1 q2 q3 hi, fun _ => ⟨_, _, w1, fun _ => s1, fun g => absurd (ecmp.mpr hc) g⟩, fun g => absurd g (nI_m1 (by omega))⟩⟩, s2⟩
          · obtain ⟨l2, s1, s2⟩ := ih (i + nI 1) (a ||| (nI 1 <<< (i &&& 31))) l3 (inc hi) (orB_t hi ha ((fwB_t q1 q2 q3).mpr hc)) hl3
            exact ⟨l2, g_r_fewer_26 ⟨fun g => absurd g (lp_g h5 hi hj (by omega)), fun _ => ⟨_, R_rowOf_t hK H1 q1 q2 q3 hi, fun _ => ⟨_, _, w1, fun g => absurd (ecmp.mp g) hc, fun _ => s1⟩, fun g => absurd g (nI_m1 (by omega))⟩⟩, s2⟩
    obtain ⟨l2, s1, s2⟩ := keyR 0 (Nat.zero_le _) _ _ l' rfl rfl (fun _ _ => rfl)
    have HC := keyC 0 (Nat.zero_le _) (nI 0) (nI 0) rfl rfl
    refine ⟨vI (orB (fwB (muS σ) (kS σ) N) N), 0, _, _, l2, by decide, by decide, g_w_fewer_0 hb ⟨fun g => absurd g e1, fun _ => ?_⟩, g_r_fewer_0 ⟨fun _ => ⟨_, _, L1, s1⟩, fun g => absurd g e2⟩, FCw.one _ _, FRw.ag L2.2.2 0, FL48 L3 s2, rfl⟩
    rw [n0, (M hr).1.1, show lN 4 = zL 4 from rfl, zL_mul, zL_mul, zL_mul, Int.mul_assoc (4 * (N : Int))]
    exact HC
  · have z0' : σ 0 0 = 0 := by rcases rd_01 hW with z | z; exact z; exact absurd z hr
    exact Agr.mk (vI (-(nI 1))) 1 (by decide) (fun c => g_w_fewer_0 hb ⟨fun _ => ⟨rfl, rfl, rfl⟩, fun g => absurd (by rw [I.2.1.1, z0']; rfl) g⟩) (fun c => g_r_fewer_0 ⟨fun g => absurd (by rw [hs.rd, z0']; rfl) g, fun _ => ⟨rfl, rfl, rfl⟩⟩)
end
