/-! ===== the class's tour ===== -/
def mnI : Option Nat → Int32
  | none => -(nI 1)
  | some w => nI w
theorem p2K {K : Nat} (h : K ≤ 12) : 2 ^ K ≤ 4096 := Nat.pow_le_pow_right (by decide) h
theorem ixK {K D m : Nat} (hD : D < 2 ^ K) (hm : m < K) : D * K + m < 2 ^ K * K := by
  have h : (D + 1) * K ≤ 2 ^ K * K := Nat.mul_le_mul_right K hD
  rw [Nat.succ_mul] at h
  omega
theorem rnK {K : Nat} (h : K ≤ 12) : 2 ^ K * K ≤ 49152 := Nat.mul_le_mul (p2K h) h
theorem cpl_lt {K L : Nat} (hL : L < 2 ^ K) : cpl K L < 2 ^ K := by unfold cpl; omega
/-- moves from mask to mask stand in the row of steps -/
def TS (K : Nat) (μ : Nat → Nat) (mi : MI) : Prop := mi 35 5 = nI K ∧ ∀ a m, a ≤ 12 → m < K → mi 37 (a * 12 + m) = nI (dT K μ a m)
def TR (K : Nat) (μ : Nat → Nat) (rc Lim : Nat) (mi : MI) : Prop := ∀ L, L < Lim → ∀ m, m < K → bt L m = 0 → mi rc (cpl K L * K + m) = nI (tgo K μ m L)
section
variable {nb db b : Nat} {by_ rs : RX} {rn rc : Nat} {c : Nat} {mi mj : MI} {ml mk : ML} {K : Nat} {μ : Nat → Nat}
theorem R_movesBy (hK : K ≤ 12) (T : TS K μ mi) (hrn : 2 ^ K * K ≤ rn) (hrn2 : rn < 2 ^ 31) {L m a : Nat} (hL : L < 2 ^ K) (hm : m < K) (ha : a ≤ 12) (hb : bt L m = 1) (hR : mi rc (cpl K (L ^^^ 2 ^ m) * K + m) = nI (tgo K μ m (L ^^^ 2 ^ m))) {x y z : Int32} (hx : x = nI (cpl K L)) (hy : y = nI a) (hz : z = nI m) :
    Ret m_tr_movesBy [vR 17 0 35, vI x, vI y, vI z] (some (vI (nI (vT K μ a L m)))) c (MRc nb db by_ (some (0, rn, rc))) mi ml mi ml := by
  have hp := p2K hK
  have hxl := xb_lt hb
  have hi := ixK (cpl_lt (show L ^^^ 2 ^ m < 2 ^ K by omega)) hm
  have hrk := rnK hK
  have e1 : y * nI 12 + z = nI (a * 12 + m) := by rw [hy, hz, pk_mul, nI_add]
  have e2 : (x ||| (nI 1 <<< (z &&& 31))) * mi 35 5 + z = nI (cpl K (L ^^^ 2 ^ m) * K + m) := by
    have hm2 : 2 ^ m < 2 ^ 32 := Nat.pow_lt_pow_right (by decide) (by omega)
    rw [shl_n rfl hz (by omega) (by omega), Nat.one_mul, hx, nI_or, cpl_or hL hm hb, T.1, hz, pk_mul, nI_add]
  refine g_tr_movesBy_0 ⟨ixn e1 (by omega) (by decide), ixn e2 (by omega) hrn2, ?_, rfl, rfl⟩
  rw [cln e1 (by omega), cln e2 (by omega), T.2 a m ha hm, hR, nI_add]
  rfl
theorem R_fewest (hK : K ≤ 12) (T : TS K μ mi) (hrn : 2 ^ K * K ≤ rn) (hrn2 : rn < 2 ^ 31) {L a : Nat} (hL : L < 2 ^ K) (ha : a ≤ 12) (hR : ∀ m, m < K → bt L m = 1 → mi rc (cpl K (L ^^^ 2 ^ m) * K + m) = nI (tgo K μ m (L ^^^ 2 ^ m))) {x y : Int32} (hx : x = nI (cpl K L)) (hy : y = nI a) :
    Ret m_tr_fewestFrom [vR 17 0 35, vI x, vI y] (some (vI (nI (tgo K μ a L)))) c (MRc nb db by_ (some (0, rn, rc))) mi ml mi ml := by
  have hp := p2K hK
  have hcl := cpl_lt hL
  refine g_tr_fewestFrom_0 ?_
  have bd : ∀ j w, mnB (isB L) (vT K μ a L) j = some w → w < 2 ^ 31 := by
    intro j w h
    obtain ⟨-, q, -, h3, h4⟩ := mnB_sp j w h
    have := vT_le (K := K) (μ := μ) (a := a) (isB_t.mp h3)
    omega
  have key : ∀ j, j ≤ K → ∀ (i l3 : Int32), i = nI j → l3 = mnI (mnB (isB L) (vT K μ a L) j) → Go m_tr_fewestFrom 5 [some (vR 17 0 35), some (vI x), some (vI y), some (vI l3), some (vI i), none] [] (some (vI (nI (tgo K μ a L)))) c (MRc nb db by_ (some (0, rn, rc))) mi ml mi ml := by
    refine upto ?_ ?_
    · intro i l3 hi h3
      refine g_tr_fewestFrom_5 ⟨fun _ => ⟨?_, rfl, rfl⟩, fun g => absurd (by rw [T.1, hi]; exact Int32.le_refl _) g⟩
      rw [tgo_eq K μ a L]
      cases e : mnB (isB L) (vT K μ a L) K with
      | none =>
        rw [e] at h3
        rw [h3]; rfl
      | some w =>
        rw [e] at h3
        have hw := bd K w e
        have hn : ¬ l3 < nI 0 := by
          rw [h3]
          exact fun g => absurd ((nI_ltI hw (by decide)).mp g) (by omega)
        rw [if_neg hn, h3]; rfl
    · intro j hj ih i l3 hi h3
      have eb : (x >>> (i &&& 31)) &&& nI 1 = nI (bt (cpl K L) j) := bit_i hx hi (by omega) (by omega)
      rw [cpl_bt hL hj] at eb
      refine g_tr_fewestFrom_5 ⟨fun g => absurd g (by rw [T.1]; exact lp_g rfl hi hj (by omega)), fun _ => ⟨fun g => ih _ _ (inc hi) ?_, fun g => ?_⟩⟩
      · have : isB L j = false := by
          rcases bt_01 L j with z | z
          · exact isB_f.mpr z
          · rw [z] at eb; exact absurd eb g
        rw [mnB_f this]; exact h3
      · have hbj : bt L j = 1 := by
          rcases bt_01 L j with z | z
          · rw [z] at eb; rw [eb] at g; exact absurd g (by decide)
          · exact z
        have hP := isB_t.mpr hbj
        refine ⟨_, R_movesBy hK T hrn hrn2 hL hj ha hbj (hR j hj hbj) hx hy hi, ?_⟩
        have hv := vT_le (K := K) (μ := μ) (a := a) hbj
        cases e : mnB (isB L) (vT K μ a L) j with
        | none =>
          rw [e] at h3
          have e2 := mnB_n hP e
          have hneg : l3 < 0 := by rw [h3]; decide
          refine ⟨fun _ => ih _ _ (inc hi) ?_, fun g2 => absurd hneg g2⟩
          rw [e2]; rfl
        | some w =>
          rw [e] at h3
          have e2 := mnB_s hP e
          have hw := bd j w e
          have hn : ¬ l3 < 0 := by
            rw [h3]
            exact fun g => absurd ((nI_ltI hw (by decide)).mp (show nI w < nI 0 from g)) (by omega)
          refine ⟨fun g2 => absurd g2 hn, fun _ => ⟨fun g2 => ih _ _ (inc hi) ?_, fun g2 => ih _ _ (inc hi) ?_⟩⟩
          · rw [h3] at g2
            have g2 := (nI_leN hw (by omega)).mp (show nI w ≤ nI (vT K μ a L j) from g2)
            rw [e2, if_neg (by omega)]; exact h3
          · rw [h3] at g2
            have g2 : ¬ w ≤ vT K μ a L j := fun y => g2 ((nI_leN hw (by omega)).mpr y)
            rw [e2, if_pos (by omega)]; rfl
  exact key 0 (by omega) _ _ rfl rfl
theorem R_nextOf (hK : K ≤ 12) (T : TS K μ mi) (hrn : 2 ^ K * K ≤ rn) (hrn2 : rn < 2 ^ 31) {L a : Nat} (hL : L < 2 ^ K) (ha : a ≤ 12) (hR : ∀ m, m < K → bt L m = 1 → mi rc (cpl K (L ^^^ 2 ^ m) * K + m) = nI (tgo K μ m (L ^^^ 2 ^ m))) {x y : Int32} (hx : x = nI (cpl K L)) (hy : y = nI a) :
    Ret m_tr_nextOf [vR 17 0 35, vI x, vI y] (some (vI (nI (nxT K μ a L)))) c (MRc nb db by_ (some (0, rn, rc))) mi ml mi ml := by
  have hp := p2K hK
  have hcl := cpl_lt hL
  refine g_tr_nextOf_0 ⟨_, R_fewest hK T hrn hrn2 hL ha hR hx hy, ?_⟩
  have htg := tgo_le K μ a L
  have key : ∀ j, j ≤ K → ∀ (i : Int32), i = nI j → Go m_tr_nextOf 10 [some (vR 17 0 35), some (vI x), some (vI y), some (vI (nI (tgo K μ a L))), some (vI i)] [] (some (vI (nI (fsB (nxP K μ a L) (K - j) j)))) c (MRc nb db by_ (some (0, rn, rc))) mi ml mi ml := by
    refine upto ?_ ?_
    · intro i hi
      refine g_tr_nextOf_10 ⟨fun _ => ⟨?_, rfl, rfl⟩, fun g => absurd (by rw [T.1, hi]; exact Int32.le_refl _) g⟩
      rw [Nat.sub_self]; rfl
    · intro j hj ih i hi
      have eb : (x >>> (i &&& 31)) &&& nI 1 = nI (bt (cpl K L) j) := bit_i hx hi (by omega) (by omega)
      rw [cpl_bt hL hj] at eb
      have es : fsB (nxP K μ a L) (K - j) j = if nxP K μ a L j = true then j else fsB (nxP K μ a L) (K - (j + 1)) (j + 1) := by
        rw [stepd hj]; rfl
      have ihn := ih _ (inc hi)
      refine g_tr_nextOf_10 ⟨fun g => absurd g (by rw [T.1]; exact lp_g rfl hi hj (by omega)), fun _ => ⟨fun g => ?_, fun g => ?_⟩⟩
      · have hz : ¬ nxP K μ a L j = true := fun h => by
          rw [(nxP_t.mp h).1] at eb; exact g eb
        rw [es, if_neg hz]; exact ihn
      · have hbj : bt L j = 1 := by
          rcases bt_01 L j with z | z
          · rw [z] at eb; rw [eb] at g; exact absurd g (by decide)
          · exact z
        have hv := vT_le (K := K) (μ := μ) (a := a) hbj
        refine ⟨_, R_movesBy hK T hrn hrn2 hL hj ha hbj (hR j hj hbj) hx hy hi, fun g2 => ?_, fun g2 => ?_⟩
        · have hz : ¬ nxP K μ a L j = true := fun h => g2 (by rw [(nxP_t.mp h).2])
          rw [es, if_neg hz]; exact ihn
        · have hz : nxP K μ a L j = true := nxP_t.mpr ⟨hbj, (nI_eq (by omega) (by omega)).mp g2⟩
          rw [es, if_pos hz, hi]; exact ⟨rfl, rfl, rfl⟩
  exact key 0 (by omega) _ rfl
theorem R_walk (hK : K ≤ 12) (T : TS K μ mi) (hrn : 2 ^ K * K ≤ rn) (hrn2 : rn < 2 ^ 31) (h36 : rc ≠ 36 ∧ rc ≠ 35 ∧ rc ≠ 37) (hR : TR K μ rc (2 ^ K - 1) mi) :
    ∃ m', Ret m_tr_walk [vR 17 0 35] none c (MRc nb db by_ (some (0, rn, rc))) mi ml m' ml ∧ (∀ i, i < K → m' 36 i = nI (wkS K μ (i + 1)).1) ∧ ∀ a, a ≠ 36 → m' a = mi a := by
  have hp := p2K hK
  have key : ∀ j, j ≤ K → ∀ (x y i : Int32) (m : MI), i = nI j → x = nI (cpl K (wkS K μ j).2) → y = nI (wkS K μ j).1 → (∀ a, a ≠ 36 → m a = mi a) → ∃ m', Go m_tr_walk 7 [some (vR 17 0 35), some (vI x), some (vI y), some (vI i), none] [] none c (MRc nb db by_ (some (0, rn, rc))) m ml m' ml ∧ (∀ i, j ≤ i → i < K → m' 36 i = nI (wkS K μ (i + 1)).1) ∧ (∀ i, i < j → m' 36 i = m 36 i) ∧ ∀ a, a ≠ 36 → m' a = mi a := by
    refine upto ?_ ?_
    · intro x y i m hi hx hy hm
      refine ⟨m, g_tr_walk_7 ⟨fun _ => ⟨rfl, rfl, rfl⟩, fun g => absurd (by rw [hm 35 (by decide), T.1, hi]; exact Int32.le_refl _) g⟩, fun i h1 h2 => by omega, fun _ _ => rfl, hm⟩
    · intro j hj ih x y i m hi hx hy hm
      obtain ⟨w1, w2, w3⟩ := wk_sp K μ j (by omega)
      obtain ⟨n1, n2, n3⟩ := nx_sp (K := K) (μ := μ) (a := (wkS K μ j).1) (l := (wkS K μ j).2) (by omega)
      have ha : (wkS K μ j).1 ≤ 12 := by rcases w3 with z | z <;> omega
      have Tm : TS K μ m := ⟨by rw [hm 35 (by decide)]; exact T.1, fun a q h1 h2 => by rw [hm 37 (by decide)]; exact T.2 a q h1 h2⟩
      have Rm : ∀ q, q < K → bt (wkS K μ j).2 q = 1 → m rc (cpl K ((wkS K μ j).2 ^^^ 2 ^ q) * K + q) = nI (tgo K μ q ((wkS K μ j).2 ^^^ 2 ^ q)) := fun q hq hb => by
        rw [hm rc h36.1]
        have := xb_lt hb
        exact hR _ (by omega) q hq (by rw [bt_x hb, if_pos rfl])
      have hxn : x ||| (nI 1 <<< (nI (nxT K μ (wkS K μ j).1 (wkS K μ j).2) &&& 31)) = nI (cpl K (wkS K μ (j + 1)).2) := by
        have hm2 : 2 ^ nxT K μ (wkS K μ j).1 (wkS K μ j).2 < 2 ^ 32 := Nat.pow_lt_pow_right (by decide) (by omega)
        rw [shl_n rfl rfl (by omega) (by omega), Nat.one_mul, hx, nI_or, cpl_or w1 n1 n2]; rfl
      obtain ⟨m', p1, p2, p3, p4⟩ := ih _ _ _ (u2 m 36 j (nI (nxT K μ (wkS K μ j).1 (wkS K μ j).2))) (inc hi) hxn rfl (fun a h => by rw [u2_o _ _ h]; exact hm a h)
      refine ⟨m', g_tr_walk_7 ⟨fun g => absurd g (by rw [hm 35 (by decide), T.1]; exact lp_g rfl hi hj (by omega)), fun _ => ⟨_, R_nextOf hK Tm hrn hrn2 w1 ha Rm hx hy, ixn hi (by omega) (by decide), ?_⟩⟩, fun q h1 h2 => ?_, fun q h1 => ?_, p4⟩
      · rw [cln hi (by omega)]; exact p1
      · by_cases e : q = j
        · subst e; rw [p3 q (by omega), u2_s]; rfl
        · exact p2 q (by omega) h2
      · rw [p3 q (by omega), u2_ne2 _ _ (Or.inr (by omega))]
  obtain ⟨m', p1, p2, p3, p4⟩ := key 0 (by omega) (nI 0) (nI 12) (nI 0) mi rfl (by
    show nI 0 = nI (2 ^ K - (2 ^ K - 1 + 1))
    have := Nat.two_pow_pos K
    congr 1; omega) rfl (fun _ _ => rfl)
  exact ⟨m', g_tr_walk_0 p1, fun i hi => p2 i (by omega) hi, p4⟩
theorem FS_in (hbb : b = 43 ∨ b = 5) (hK : K ≤ 12) (hμ : ∀ q, q < K → μ q < 2 ^ 31) {a : Nat} (ha : a ≤ 12) {y l3 : Int32} (hy : y = nI a) (h3 : l3 = nI (if a < K then μ a else 0)) : ∀ j, j ≤ K → ∀ (i : Int32) (m : MI), i = nI j → m 35 5 = nI K → (∀ q, q < K → m (b + 4) q = nI (μ q)) →
    ∃ m', (∀ rv mi' ml', Go m_tr_findSteps 2 [some (vR 17 0 35), some (vR 13 0 b), some (vI (y + nI 1)), none, none] [] rv c (MRc nb db by_ rs) m' ml mi' ml' → Go m_tr_findSteps 30 [some (vR 17 0 35), some (vR 13 0 b), some (vI y), some (vI l3), some (vI i)] [] rv c (MRc nb db by_ rs) m ml mi' ml') ∧ (∀ q, j ≤ q → q < K → m' 37 (a * 12 + q) = nI (dT K μ a q)) ∧ (∀ k, k < a * 12 + j ∨ a * 12 + K ≤ k → m' 37 k = m 37 k) ∧ ∀ z, z ≠ 37 → m' z = m z := by
  refine upto ?_ ?_
  · intro i m hi h5 hm
    exact ⟨m, fun rv mi' ml' h => g_tr_findSteps_30 hbb ⟨fun _ => h, fun g => absurd (by rw [h5, hi]; exact Int32.le_refl _) g⟩, fun q h1 h2 => by omega, fun _ _ => rfl, fun _ _ => rfl⟩
  · intro j hj ih i m hi h5 hm
    have hb4 : b + 4 ≠ 37 := by omega
    have e1 : y * nI 12 + i = nI (a * 12 + j) := by rw [hy, hi, pk_mul, nI_add]
    have hl3 : (if a < K then μ a else 0) < 2 ^ 31 := by
      by_cases e : a < K
      · rw [if_pos e]; exact hμ a e
      · rw [if_neg e]; decide
    have ex : l3 ^^^ m (b + 4) i.toNatClampNeg = nI ((if a < K then μ a else 0) ^^^ μ j) := by
      rw [cln hi (by omega), hm j hj, h3, nI_xor]
    obtain ⟨m', p1, p2, p3, p4⟩ := ih (i + nI 1) (u2 m 37 (a * 12 + j) (nI (dT K μ a j))) (inc hi) (by rw [u2_o _ _ (by decide)]; exact h5) (fun q hq => by rw [u2_o _ _ hb4]; exact hm q hq)
    refine ⟨m', fun rv mi' ml' h => g_tr_findSteps_30 hbb ⟨fun g => absurd g (by rw [h5]; exact lp_g rfl hi hj (by omega)), fun _ => ⟨ixn hi (by omega) (by decide), _, R_bitCount (Nat.lt_trans (Nat.xor_lt_two_pow hl3 (hμ j hj)) (by decide)) ex, ixn e1 (by omega) (by decide), ?_⟩⟩, fun q h1 h2 => ?_, fun k hk => ?_, fun z hz => by rw [p4 z hz, u2_o _ _ hz]⟩
    · rw [cln e1 (by omega)]; exact p1 rv mi' ml' h
    · by_cases e : q = j
      · subst e; rw [p3 _ (by omega), u2_s]
      · exact p2 q (by omega) h2
    · rw [p3 k (by omega), u2_ne2 _ _ (Or.inr (by omega))]
theorem R_findSteps (hbb : b = 43 ∨ b = 5) (hK : K ≤ 12) (hμ : ∀ q, q < K → μ q < 2 ^ 31) (h5 : mi 35 5 = nI K) (hm : ∀ q, q < K → mi (b + 4) q = nI (μ q)) :
    ∃ m', Ret m_tr_findSteps [vR 17 0 35, vR 13 0 b] none c (MRc nb db by_ rs) mi ml m' ml ∧ TS K μ m' ∧ ∀ z, z ≠ 37 → m' z = mi z := by
  have hb4 : b + 4 ≠ 37 := by omega
  have key : ∀ a, a ≤ 13 → ∀ (y : Int32) (m : MI), y = nI a → (∀ z, z ≠ 37 → m z = mi z) → ∃ m', Go m_tr_findSteps 2 [some (vR 17 0 35), some (vR 13 0 b), some (vI y), none, none] [] none c (MRc nb db by_ rs) m ml m' ml ∧ (∀ a' q, a ≤ a' → a' ≤ 12 → q < K → m' 37 (a' * 12 + q) = nI (dT K μ a' q)) ∧ (∀ k, k < a * 12 → m' 37 k = m 37 k) ∧ ∀ z, z ≠ 37 → m' z = mi z := by
    refine upto ?_ ?_
    · intro y m hy hz
      exact ⟨m, g_tr_findSteps_2 hbb ⟨fun _ => ⟨rfl, rfl, rfl⟩, fun g => absurd (by rw [hy]; decide) g⟩, fun a' q h1 h2 => by omega, fun _ _ => rfl, hz⟩
    · intro a ha ih y m hy hz
      obtain ⟨m1, q1, q2, q3, q4⟩ := FS_in (nb := nb) (db := db) (by_ := by_) (rs := rs) (c := c) (ml := ml) hbb hK hμ (show a ≤ 12 by omega) hy (l3 := nI (if a < K then μ a else 0)) rfl 0 (by omega) (nI 0) m rfl (by rw [hz 35 (by decide)]; exact h5) (fun q hq => by rw [hz _ hb4]; exact hm q hq)
      obtain ⟨m2, s1, s2, s3, s4⟩ := ih (y + nI 1) m1 (inc hy) (fun z h => by rw [q4 z h, hz z h])
      have G := q1 _ _ _ s1
      refine ⟨m2, g_tr_findSteps_2 hbb ⟨fun g => absurd g ?_, fun _ => ⟨fun g => ?_, fun g => ⟨ixn hy (by have h := g; rw [hz 35 (by decide), h5, hy, nI_leN (by omega) (by omega)] at h; omega) (by decide), ?_⟩⟩⟩, fun a' q h1 h2 h3 => ?_, fun k hk => ?_, s4⟩
      · rw [hy, nI_ltI (by decide) (by omega)]; omega
      · rw [hz 35 (by decide), h5, hy, nI_leN (by omega) (by omega)] at g
        rw [if_neg (by omega)] at G; exact G
      · rw [hz 35 (by decide), h5, hy, nI_leN (by omega) (by omega)] at g
        rw [if_pos (by omega)] at G
        rw [cln hy (by omega), hz _ hb4, hm a (by omega)]; exact G
      · by_cases e : a' = a
        · subst e
          rw [s3 _ (by omega)]; exact q2 q (by omega) h3
        · exact s2 a' q (by omega) h2 h3
      · rw [s3 k (by omega), q3 k (by omega)]
  obtain ⟨m', p1, p2, p3, p4⟩ := key 0 (by omega) (nI 0) mi rfl (fun _ _ => rfl)
  exact ⟨m', g_tr_findSteps_0 hbb p1, ⟨by rw [p4 35 (by decide)]; exact h5, fun a m h1 h2 => p2 a m (by omega) h1 h2⟩, p4⟩
theorem FI_in (hbb : b = 43 ∨ b = 5) (hK : K ≤ 12) (hrn : 2 ^ K * K ≤ rn) (hrn2 : rn < 2 ^ 31) (hrc : rc ≠ 35 ∧ rc ≠ 36 ∧ rc ≠ 37) {L : Nat} (hL : L < 2 ^ K) {x : Int32} (hx : x = nI (cpl K L)) : ∀ j, j ≤ K → ∀ (i : Int32) (m : MI), i = nI j → TS K μ m → TR K μ rc L m →
    ∃ m', (∀ rv mi' ml', Go m_tr_find 72 [some (vR 17 0 35), some (vR 13 0 b), some (vI (x + -(nI 1))), none] [] rv c (MRc nb db by_ (some (0, rn, rc))) m' ml mi' ml' → Go m_tr_find 78 [some (vR 17 0 35), some (vR 13 0 b), some (vI x), some (vI i)] [] rv c (MRc nb db by_ (some (0, rn, rc))) m ml mi' ml') ∧ (∀ q, j ≤ q → q < K → bt L q = 0 → m' rc (cpl K L * K + q) = nI (tgo K μ q L)) ∧ (∀ k, k < cpl K L * K + j ∨ cpl K L * K + K ≤ k → m' rc k = m rc k) ∧ ∀ z, z ≠ rc → m' z = m z := by
  have hp := p2K hK
  have hcl := cpl_lt hL
  refine upto ?_ ?_
  · intro i m hi T R
    exact ⟨m, fun rv mi' ml' h => g_tr_find_78 hbb ⟨fun _ => h, fun g => absurd (by rw [T.1, hi]; exact Int32.le_refl _) g⟩, fun q h1 h2 => by omega, fun _ _ => rfl, fun _ _ => rfl⟩
  · intro j hj ih i m hi T R
    have eb : (x >>> (i &&& 31)) &&& nI 1 = nI (bt (cpl K L) j) := bit_i hx hi (by omega) (by omega)
    rw [cpl_bt hL hj] at eb
    have hrk := rnK hK
    have hix := ixK hcl hj
    by_cases hbj : bt L j = 1
    · rw [hbj] at eb
      obtain ⟨m', p1, p2, p3, p4⟩ := ih (i + nI 1) m (inc hi) T R
      refine ⟨m', fun rv mi' ml' h => g_tr_find_78 hbb ⟨fun g => absurd g (by rw [T.1]; exact lp_g rfl hi hj (by omega)), fun _ => ⟨fun _ => p1 rv mi' ml' h, fun g => absurd (eb.symm.trans g) (by decide)⟩⟩, fun q h1 h2 h3 => ?_, fun k hk => p3 k (by omega), p4⟩
      by_cases e : q = j
      · subst e; omega
      · exact p2 q (by omega) h2 h3
    · have hbj0 : bt L j = 0 := by rcases bt_01 L j with z | z; exact z; exact absurd z hbj
      rw [hbj0] at eb
      have e2 : x * m 35 5 + i = nI (cpl K L * K + j) := by rw [hx, T.1, hi, pk_mul, nI_add]
      have T' : TS K μ (u2 m rc (cpl K L * K + j) (nI (tgo K μ j L))) := ⟨by rw [u2_o _ _ (by omega)]; exact T.1, fun a q h1 h2 => by rw [u2_o _ _ (by omega)]; exact T.2 a q h1 h2⟩
      have R' : TR K μ rc L (u2 m rc (cpl K L * K + j) (nI (tgo K μ j L))) := fun L' hL' q hq hb => by
        have hc : cpl K L + 1 ≤ cpl K L' := by unfold cpl; omega
        have := Nat.mul_le_mul_right K hc
        rw [Nat.succ_mul] at this
        rw [u2_ne2 _ _ (Or.inr (by omega))]; exact R L' hL' q hq hb
      obtain ⟨m', p1, p2, p3, p4⟩ := ih (i + nI 1) _ (inc hi) T' R'
      have Rm : ∀ q, q < K → bt L q = 1 → m rc (cpl K (L ^^^ 2 ^ q) * K + q) = nI (tgo K μ q (L ^^^ 2 ^ q)) := fun q hq hb => R _ (xb_lt hb) q hq (by rw [bt_x hb, if_pos rfl])
      refine ⟨m', fun rv mi' ml' h => g_tr_find_78 hbb ⟨fun g => absurd g (by rw [T.1]; exact lp_g rfl hi hj (by omega)), fun _ => ⟨fun g => absurd eb g, fun _ => ⟨_, R_fewest hK T hrn hrn2 hL (show j ≤ 12 by omega) Rm hx hi, ixn e2 (by omega) hrn2, ?_⟩⟩⟩, fun q h1 h2 h3 => ?_, fun k hk => ?_, fun z hz => by rw [p4 z hz, u2_o _ _ hz]⟩
      · rw [cln e2 (by omega)]; exact p1 rv mi' ml' h
      · by_cases e : q = j
        · subst e; rw [p3 _ (by omega), u2_s]
        · exact p2 q (by omega) h2 h3
      · rw [p3 k (by omega), u2_ne2 _ _ (Or.inr (by omega))]
/-- what a tour that was found leaves -/
def TD (K : Nat) (μ : Nat → Nat) (mi : MI) : Prop := mi 35 1 = nI (tgo K μ 12 (2 ^ K - 1)) ∧ ∀ i, i < K → mi 36 i = nI (wkS K μ (i + 1)).1
theorem FI_out (hbb : b = 43 ∨ b = 5) (hK : K ≤ 12) (hrn : 2 ^ K * K ≤ rn) (hrn2 : rn < 2 ^ 31) (hrc : rc ≠ 35 ∧ rc ≠ 36 ∧ rc ≠ 37) : ∀ L, L ≤ 2 ^ K - 1 → ∀ (x : Int32) (m : MI), x = nI (cpl K L) → TS K μ m → TR K μ rc L m →
    ∃ m', Go m_tr_find 72 [some (vR 17 0 35), some (vR 13 0 b), some (vI x), none] [] none c (MRc nb db by_ (some (0, rn, rc))) m ml m' ml ∧ TD K μ m' ∧ (∀ k, k ≠ 1 → m' 35 k = m 35 k) ∧ ∀ z, z ≠ 35 → z ≠ 36 → z ≠ rc → m' z = m z := by
  have hp := p2K hK
  have hp0 := Nat.two_pow_pos K
  refine upto ?_ ?_
  · intro x m hx T R
    have ec : cpl K (2 ^ K - 1) = 0 := by unfold cpl; omega
    rw [ec] at hx
    have hF := R_fewest (nb := nb) (db := db) (by_ := by_) (rc := rc) (c := c) (ml := ml) (L := 2 ^ K - 1) (a := 12) (x := nI 0) (y := nI 12) hK T hrn hrn2 (by omega) (by omega) (fun q hq hb => R _ (xb_lt hb) q hq (by rw [bt_x hb, if_pos rfl])) (by rw [ec]) rfl
    have T' : TS K μ (u2 m 35 1 (nI (tgo K μ 12 (2 ^ K - 1)))) := ⟨by rw [u2_ne2 _ _ (Or.inr (by decide))]; exact T.1, fun a q h1 h2 => by rw [u2_o _ _ (by decide)]; exact T.2 a q h1 h2⟩
    have R' : TR K μ rc (2 ^ K - 1) (u2 m 35 1 (nI (tgo K μ 12 (2 ^ K - 1)))) := fun L' hL' q hq hb => by
      rw [u2_o _ _ hrc.1]; exact R L' hL' q hq hb
    obtain ⟨m', p1, p2, p3⟩ := R_walk (nb := nb) (db := db) (by_ := by_) (c := c) (ml := ml) hK T' hrn hrn2 ⟨hrc.2.1, hrc.1, hrc.2.2⟩ R'
    refine ⟨m', g_tr_find_72 hbb ⟨fun _ => ⟨_, hF, _, _, p1, rfl, rfl, rfl⟩, fun g => absurd (by rw [hx]; decide) g⟩, ⟨by rw [p3 35 (by decide), u2_s], p2⟩, fun k hk => by rw [p3 35 (by decide), u2_ne2 _ _ (Or.inr hk)], fun z h1 h2 h3 => by rw [p3 z h2, u2_o _ _ h1]⟩
  · intro L hL ih x m hx T R
    have hcl : 0 < cpl K L := by unfold cpl; omega
    have hcl2 : cpl K L < 2 ^ K := cpl_lt (by omega)
    have hpos : ¬ x ≤ 0 := by
      rw [hx]
      exact fun g => absurd ((nI_leN (by omega) (by decide)).mp (show nI (cpl K L) ≤ nI 0 from g)) (by omega)
    have ex : x + -(nI 1) = nI (cpl K (L + 1)) := by
      rw [hx, show cpl K L = cpl K (L + 1) + 1 by unfold cpl; omega]; exact pk_m1 _
    obtain ⟨m1, q1, q2, q3, q4⟩ := FI_in (nb := nb) (db := db) (by_ := by_) (c := c) (ml := ml) hbb hK hrn hrn2 hrc (show L < 2 ^ K by omega) hx 0 (by omega) (nI 0) m rfl T R
    have T1 : TS K μ m1 := ⟨by rw [q4 35 (by omega)]; exact T.1, fun a q h1 h2 => by rw [q4 37 (by omega)]; exact T.2 a q h1 h2⟩
    have R1 : TR K μ rc (L + 1) m1 := fun L' hL' q hq hb => by
      by_cases e : L' = L
      · subst e; exact q2 q (by omega) hq hb
      · have hc : cpl K L + 1 ≤ cpl K L' := by unfold cpl; omega
        have := Nat.mul_le_mul_right K hc
        rw [Nat.succ_mul] at this
        rw [q3 _ (by omega)]; exact R L' (by omega) q hq hb
    obtain ⟨m2, s1, s2, s3, s4⟩ := ih _ m1 ex T1 R1
    exact ⟨m2, g_tr_find_72 hbb ⟨fun g => absurd g hpos, fun _ => q1 _ _ _ s1⟩, s2, fun k hk => by rw [s3 k hk, q4 35 (by omega)], fun z h1 h2 h3 => by rw [s4 z h1 h2 h3, q4 z h3]⟩
theorem R_find63 (hbb : b = 43 ∨ b = 5) (hK : K ≤ 12) (hrn : 2 ^ K * K ≤ rn) (hrn2 : rn < 2 ^ 31) (hrc : rc ≠ 35 ∧ rc ≠ 36 ∧ rc ≠ 37) (T : TS K μ mi) :
    ∃ m', Go m_tr_find 63 [some (vR 17 0 35), some (vR 13 0 b), none, none] [] none c (MRc nb db by_ (some (0, rn, rc))) mi ml m' ml ∧ TD K μ m' ∧ (∀ k, k ≠ 1 → m' 35 k = mi 35 k) ∧ ∀ z, z ≠ 35 → z ≠ 36 → z ≠ rc → m' z = mi z := by
  have hp := p2K hK
  have hp0 := Nat.two_pow_pos K
  obtain ⟨m', p1, p2⟩ := FI_out (nb := nb) (db := db) (by_ := by_) (c := c) (ml := ml) (μ := μ) hbb hK hrn hrn2 hrc 0 (by omega) ((nI 1 <<< (mi 35 5 &&& 31)) - nI 1) mi (by
    rw [shl_n rfl T.1 (by omega) (by omega), Nat.one_mul, nI_sub (by omega)]; rfl) T (fun L' hL' => by omega)
  exact ⟨m', g_tr_find_63 hbb p1, p2⟩
end
