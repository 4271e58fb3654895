/-! ===== the reference's tour ===== -/
def frR (K : Nat) (x : Int32) (a : Nat) : Prop := (x = nI a ∧ a < K) ∨ (x = -(nI 1) ∧ a = 12)
def RT (K : Nat) (μ : Nat → Nat) (mj : MI) : Prop := mj 48 9 = nI K ∧ ∀ q, q < K → mj 51 q = nI (μ q)
def TQ (K : Nat) (μ : Nat → Nat) (Lim : Nat) (mj : MI) : Prop := ∀ L, L < Lim → ∀ m, m < K → bt L m = 0 → mj 65 (12 * L + m) = nI (tgo K μ m L)
section
variable {nb db b : Nat} {by_ rs : RX} {c : Nat} {mi mj : MI} {ml mk : ML} {K : Nat} {μ : Nat → Nat}
theorem nI_m1 {a : Nat} (h : a < 2 ^ 31) : ¬ nI a = -(nI 1) := fun e => by
  have h1 : (nI a).toInt = (-(nI 1)).toInt := by rw [e]
  rw [nI_toInt h] at h1
  have h2 : (-(nI 1)).toInt = -1 := by decide
  omega
theorem R_movesTo (hK : K ≤ 12) (hμ : ∀ q, q < K → μ q < 2 ^ 31) (T : RT K μ mj) {x y : Int32} {a m : Nat} (hx : frR K x a) (hy : y = nI m) (hm : m < K) : Ret m_r_movesTo [vR 19 0 48, vI x, vI y] (some (vI (nI (dT K μ a m)))) c (MRc nb db by_ rs) mj mk mj mk := by
  rcases hx with ⟨hx, ha⟩ | ⟨hx, ha⟩
  · refine g_r_movesTo_0 ⟨fun _ => ⟨ixn hx (by omega) (by decide), ixn hy (by omega) (by decide), _, R_many (n := μ a ^^^ μ m) (Nat.lt_trans (Nat.xor_lt_two_pow (hμ a ha) (hμ m hm)) (by decide)) ?_, ?_, rfl, rfl⟩, fun g => absurd (hx.symm.trans g) (nI_m1 (by omega))⟩
    · rw [cln hx (by omega), cln hy (by omega), T.2 a ha, T.2 m hm, nI_xor]
    · unfold dT; rw [if_pos ha]
  · refine g_r_movesTo_0 ⟨fun g => absurd hx g, fun _ => ⟨ixn hy (by omega) (by decide), _, R_many (n := 0 ^^^ μ m) (Nat.lt_trans (Nat.xor_lt_two_pow (by decide) (hμ m hm)) (by decide)) ?_, ?_, rfl, rfl⟩⟩
    · rw [cln hy (by omega), T.2 m hm, nI_xor]
    · unfold dT; rw [if_neg (by omega)]
theorem xrK (hK : K ≤ 12) {L m : Nat} (hL : L < 2 ^ K) (hb : bt L m = 1) (hm : m < K) {x y : Int32} (hx : x = nI L) (hy : y = nI m) : nI 12 * (x ^^^ (nI 1 <<< (y &&& 31))) + y = nI (12 * (L ^^^ 2 ^ m) + m) ∧ x ^^^ (nI 1 <<< (y &&& 31)) = nI (L ^^^ 2 ^ m) ∧ 12 * (L ^^^ 2 ^ m) + m < 49152 := by
  have hp := p2K hK
  have hxl := xb_lt hb
  have hm2 : 2 ^ m < 2 ^ 32 := Nat.pow_lt_pow_right (by decide) (by omega)
  have e : x ^^^ (nI 1 <<< (y &&& 31)) = nI (L ^^^ 2 ^ m) := by rw [shl_n rfl hy (by omega) (by omega), Nat.one_mul, hx, nI_xor]
  refine ⟨by rw [e, hy, pk_mul, nI_add], e, by omega⟩
theorem R_goes (hK : K ≤ 12) (hμ : ∀ q, q < K → μ q < 2 ^ 31) (T : RT K μ mj) {L a : Nat} (hL : L < 2 ^ K) (hR : ∀ m, m < K → bt L m = 1 → mj 65 (12 * (L ^^^ 2 ^ m) + m) = nI (tgo K μ m (L ^^^ 2 ^ m))) {x y : Int32} (hx : frR K x a) (hy : y = nI L) :
    Ret m_r_goes [vR 19 0 48, vI x, vI y] (some (vI (nI (tgo K μ a L)))) c (MRc nb db by_ rs) mj mk mj mk := by
  have hp := p2K hK
  have bd : ∀ j w, mnB (isB L) (vT K μ a L) j = some w → w ≤ 32 * L + 32 := by
    intro j w h
    obtain ⟨-, q, -, h3, h4⟩ := mnB_sp j w h
    have := vT_le (K := K) (μ := μ) (a := a) (isB_t.mp h3)
    omega
  have key : ∀ (z : Int32), (L = 0 → z = nI 0) → (L ≠ 0 → z = nI 2147483647) → ∀ j, j ≤ K → ∀ (i l3 : Int32), i = nI j → (∀ w, mnB (isB L) (vT K μ a L) j = some w → l3 = nI w) → (mnB (isB L) (vT K μ a L) j = none → l3 = z) → Go m_r_goes 15 [some (vR 19 0 48), some (vI x), some (vI y), some (vI l3), some (vI i), none] [] (some (vI (nI (tgo K μ a L)))) c (MRc nb db by_ rs) mj mk mj mk := by
    intro z hz0 hz1
    refine upto ?_ ?_
    · intro i l3 hi h1 h2
      refine g_r_goes_15 ⟨fun _ => ⟨?_, rfl, rfl⟩, fun g => absurd (by rw [T.1, hi]; exact Int32.le_refl _) g⟩
      rw [tgo_eq K μ a L]
      cases e : mnB (isB L) (vT K μ a L) K with
      | some w => rw [h1 w e]; rfl
      | none =>
        rw [h2 e]
        by_cases h0 : L = 0
        · rw [hz0 h0]; rfl
        · exfalso
          obtain ⟨m, hm⟩ := Nat.exists_testBit_of_ne_zero h0
          have hmK : m < K := by
            rcases Nat.lt_or_ge m K with g | g
            · exact g
            · rw [Nat.testBit_lt_two_pow (Nat.lt_of_lt_of_le hL (Nat.pow_le_pow_right (by decide) g))] at hm; cases hm
          have hb : bt L m = 1 := by rw [bt_tb, if_pos hm]
          obtain ⟨w, hw⟩ := mnB_ex (P := isB L) (v := vT K μ a L) K ⟨m, hmK, isB_t.mpr hb⟩
          rw [e] at hw; cases hw
    · intro j hj ih i l3 hi h1 h2
      refine g_r_goes_15 ⟨fun g => absurd g (by rw [T.1]; exact lp_g rfl hi hj (by omega)), fun _ => ⟨_, R_has hy hi (by omega) (by omega), fun g => ?_, fun g => ih _ _ (inc hi) (fun w hw => ?_) (fun hw => ?_)⟩⟩
      · have hb : bt L j = 1 := Classical.byContradiction fun q => g (bt_r.mpr q)
        have hP := isB_t.mpr hb
        have h0 : L ≠ 0 := fun e => by rw [e, bt_0] at hb; cases hb
        obtain ⟨e1, -, e3⟩ := xrK hK hL hb hj hy hi
        have hv := vT_le (K := K) (μ := μ) (a := a) hb
        have ev : nI (dT K μ a j) + mj 65 ((nI 12 * (y ^^^ (nI 1 <<< (i &&& 31)))) + i).toNatClampNeg = nI (vT K μ a L j) := by
          rw [cln e1 (by omega), hR j hj hb, nI_add]; rfl
        refine ⟨_, R_movesTo hK hμ T hx hi hj, ixn e1 e3 (by decide), ?_⟩
        rw [ev]
        cases e : mnB (isB L) (vT K μ a L) j with
        | none =>
          have e2 := mnB_n hP e
          have hl3 := (h2 e).trans (hz1 h0)
          refine ⟨fun g2 => ?_, fun g2 => ih _ _ (inc hi) (fun w hw => ?_) (fun hw => ?_)⟩
          · rw [hl3, nI_leN (by decide) (by omega)] at g2; omega
          · rw [e2] at hw; cases hw; rfl
          · rw [e2] at hw; cases hw
        | some w0 =>
          have e2 := mnB_s hP e
          have hw0 := bd j w0 e
          have hl3 := h1 w0 e
          refine ⟨fun g2 => ih _ _ (inc hi) (fun w hw => ?_) (fun hw => ?_), fun g2 => ih _ _ (inc hi) (fun w hw => ?_) (fun hw => ?_)⟩
          · rw [hl3, nI_leN (by omega) (by omega)] at g2
            rw [e2, if_neg (by omega)] at hw; cases hw; exact hl3
          · rw [e2] at hw; cases hw
          · have g2 : ¬ w0 ≤ vT K μ a L j := fun q => g2 (by rw [hl3, nI_leN (by omega) (by omega)]; exact q)
            rw [e2, if_pos (by omega)] at hw; cases hw; rfl
          · rw [e2] at hw; cases hw
      · have hf : isB L j = false := isB_f.mpr (by rcases bt_01 L j with q | q; exact q; exact absurd q (bt_r.mp g))
        rw [mnB_f hf] at hw; exact h1 w hw
      · have hf : isB L j = false := isB_f.mpr (by rcases bt_01 L j with q | q; exact q; exact absurd q (bt_r.mp g))
        rw [mnB_f hf] at hw; exact h2 hw
  by_cases h0 : L = 0
  · refine g_r_goes_0 ⟨fun g => absurd (by rw [hy, h0]; rfl) g, fun _ => key (nI 0) (fun _ => rfl) (fun g => absurd h0 g) 0 (by omega) _ _ rfl (fun w hw => by cases hw) (fun _ => rfl)⟩
  · refine g_r_goes_0 ⟨fun _ => key (nI 2147483647) (fun g => absurd g h0) (fun _ => rfl) 0 (by omega) _ _ rfl (fun w hw => by cases hw) (fun _ => rfl), fun g => absurd (nI_ne0' (by omega) (by rw [← hy]; exact g)) h0⟩
theorem LT_in (hK : K ≤ 12) (hμ : ∀ q, q < K → μ q < 2 ^ 31) {L : Nat} (hL : L < 2 ^ K) {x : Int32} (hx : x = nI L) : ∀ j, j ≤ K → ∀ (i : Int32) (m : MI), i = nI j → RT K μ m → TQ K μ L m →
    ∃ m', (∀ rv mi' ml', Go m_r_laysTours 2 [some (vR 19 0 48), some (vI (x + nI 1)), none] [] rv c (MRc nb db by_ rs) m' mk mi' ml' → Go m_r_laysTours 14 [some (vR 19 0 48), some (vI x), some (vI i)] [] rv c (MRc nb db by_ rs) m mk mi' ml') ∧ (∀ q, j ≤ q → q < K → bt L q = 0 → m' 65 (12 * L + q) = nI (tgo K μ q L)) ∧ (∀ k, k < 12 * L + j ∨ 12 * L + K ≤ k → m' 65 k = m 65 k) ∧ ∀ z, z ≠ 65 → m' z = m z := by
  have hp := p2K hK
  refine upto ?_ ?_
  · intro i m hi T R
    exact ⟨m, fun rv mi' ml' h => g_r_laysTours_14 ⟨fun _ => h, fun g => absurd (by rw [T.1, hi]; exact Int32.le_refl _) g⟩, fun q h1 h2 => by omega, fun _ _ => rfl, fun _ _ => rfl⟩
  · intro j hj ih i m hi T R
    by_cases hbj : bt L j = 1
    · obtain ⟨m', p1, p2, p3, p4⟩ := ih (i + nI 1) m (inc hi) T R
      refine ⟨m', fun rv mi' ml' h => g_r_laysTours_14 ⟨fun g => absurd g (by rw [T.1]; exact lp_g rfl hi hj (by omega)), fun _ => ⟨_, R_has hx hi (by omega) (by omega), fun _ => p1 rv mi' ml' h, fun g => absurd hbj (bt_r.mp g)⟩⟩, fun q h1 h2 h3 => ?_, fun k hk => p3 k (by omega), p4⟩
      by_cases e : q = j
      · subst e; omega
      · exact p2 q (by omega) h2 h3
    · have e2 : nI 12 * x + i = nI (12 * L + j) := by rw [hx, hi, pk_mul, nI_add]
      have T' : RT K μ (u2 m 65 (12 * L + j) (nI (tgo K μ j L))) := ⟨by rw [u2_o _ _ (by decide)]; exact T.1, fun q h1 => by rw [u2_o _ _ (by decide)]; exact T.2 q h1⟩
      have R' : TQ K μ L (u2 m 65 (12 * L + j) (nI (tgo K μ j L))) := fun L' hL' q hq hb => by
        rw [u2_ne2 _ _ (Or.inr (by omega))]; exact R L' hL' q hq hb
      obtain ⟨m', p1, p2, p3, p4⟩ := ih (i + nI 1) _ (inc hi) T' R'
      have Rm : ∀ q, q < K → bt L q = 1 → m 65 (12 * (L ^^^ 2 ^ q) + q) = nI (tgo K μ q (L ^^^ 2 ^ q)) := fun q hq hb => R _ (xb_lt hb) q hq (by rw [bt_x hb, if_pos rfl])
      refine ⟨m', fun rv mi' ml' h => g_r_laysTours_14 ⟨fun g => absurd g (by rw [T.1]; exact lp_g rfl hi hj (by omega)), fun _ => ⟨_, R_has hx hi (by omega) (by omega), fun g => absurd (bt_r.mpr hbj) g, fun _ => ⟨_, R_goes hK hμ T hL Rm (Or.inl ⟨hi, hj⟩) hx, ixn e2 (by omega) (by decide), ?_⟩⟩⟩, fun q h1 h2 h3 => ?_, fun k hk => ?_, fun z hz => by rw [p4 z hz, u2_o _ _ hz]⟩
      · rw [cln e2 (by omega)]; exact p1 rv mi' ml' h
      · by_cases e : q = j
        · subst e; rw [p3 _ (by omega), u2_s]
        · exact p2 q (by omega) h2 h3
      · rw [p3 k (by omega), u2_ne2 _ _ (Or.inr (by omega))]
theorem R_laysTours (hK : K ≤ 12) (hμ : ∀ q, q < K → μ q < 2 ^ 31) (T : RT K μ mj) : ∃ m', Ret m_r_laysTours [vR 19 0 48] none c (MRc nb db by_ rs) mj mk m' mk ∧ TQ K μ (2 ^ K) m' ∧ ∀ z, z ≠ 65 → m' z = mj z := by
  have hp := p2K hK
  have hsh : ∀ m : MI, m 48 9 = nI K → nI 1 <<< (m 48 9 &&& 31) = nI (2 ^ K) := fun m h => by rw [shl_n rfl h (by omega) (by omega), Nat.one_mul]
  have key : ∀ L, L ≤ 2 ^ K → ∀ (x : Int32) (m : MI), x = nI L → TQ K μ L m → (∀ z, z ≠ 65 → m z = mj z) → ∃ m', Go m_r_laysTours 2 [some (vR 19 0 48), some (vI x), none] [] none c (MRc nb db by_ rs) m mk m' mk ∧ TQ K μ (2 ^ K) m' ∧ ∀ z, z ≠ 65 → m' z = mj z := by
    refine upto ?_ ?_
    · intro x m hx R hz
      refine ⟨m, g_r_laysTours_2 ⟨fun _ => ⟨rfl, rfl, rfl⟩, fun g => absurd ?_ g⟩, R, hz⟩
      rw [hsh m (by rw [hz 48 (by decide)]; exact T.1), hx]; exact Int32.le_refl _
    · intro L hL ih x m hx R hz
      have Tm : RT K μ m := ⟨by rw [hz 48 (by decide)]; exact T.1, fun q h1 => by rw [hz 51 (by decide)]; exact T.2 q h1⟩
      obtain ⟨m1, q1, q2, q3, q4⟩ := LT_in (nb := nb) (db := db) (by_ := by_) (rs := rs) (c := c) (mk := mk) hK hμ hL hx 0 (by omega) (nI 0) m rfl Tm R
      have R1 : TQ K μ (L + 1) m1 := fun L' hL' q hq hb => by
        by_cases e : L' = L
        · subst e; exact q2 q (by omega) hq hb
        · rw [q3 _ (by omega)]; exact R L' (by omega) q hq hb
      obtain ⟨m2, s1, s2, s3⟩ := ih _ m1 (inc hx) R1 (fun z h => by rw [q4 z h, hz z h])
      refine ⟨m2, g_r_laysTours_2 ⟨fun g => absurd g ?_, fun _ => q1 _ _ _ s1⟩, s2, s3⟩
      rw [hsh m Tm.1, hx, nI_leN (by omega) (by omega)]; omega
  obtain ⟨m', p1, p2, p3⟩ := key 0 (Nat.zero_le _) (nI 0) mj rfl (fun L' hL' => by omega) (fun _ _ => rfl)
  exact ⟨m', g_r_laysTours_0 p1, p2, p3⟩
/-- the reference's look for the next mask -/
theorem TA_in (hK : K ≤ 12) (hμ : ∀ q, q < K → μ q < 2 ^ 31) (T : RT K μ mj) (R : TQ K μ (2 ^ K) mj) {L a : Nat} (hL : L < 2 ^ K) {x y l1 l4 l5 : Int32} (hx : frR K x a) (hy : y = nI L) (h5 : l5 = nI (tgo K μ a L)) {rv : Option AV} {mi' : MI} {ml' : ML} (t : Nat) (ht : t < K) (hp : nxP K μ a L t = true)
    (G : ∀ u v w : Int32, u = nI t → v = nI (L ^^^ 2 ^ t) → w = l4 + nI 1 → Go m_r_tourAt 48 [some (vR 19 0 48), some (vI l1), some (vI u), some (vI v), some (vI w), none, none] [] rv c (MRc nb db by_ rs) mj mk mi' ml') :
    ∀ j, j ≤ t → (∀ q, q < t → j ≤ q → ¬ nxP K μ a L q = true) → ∀ (i : Int32), i = nI j → Go m_r_tourAt 65 [some (vR 19 0 48), some (vI l1), some (vI x), some (vI y), some (vI l4), some (vI l5), some (vI i)] [] rv c (MRc nb db by_ rs) mj mk mi' ml' := by
  have hp2 := p2K hK
  have htg := tgo_le K μ a L
  have hRm : ∀ q, q < K → bt L q = 1 → mj 65 (12 * (L ^^^ 2 ^ q) + q) = nI (tgo K μ q (L ^^^ 2 ^ q)) := fun q hq hb => R _ (by have := xb_lt hb; omega) q hq (by rw [bt_x hb, if_pos rfl])
  refine upto ?_ ?_
  · intro _ i hi
    obtain ⟨hb, he⟩ := nxP_t.mp hp
    obtain ⟨e1, e2, e3⟩ := xrK hK hL hb ht hy hi
    have ev : nI (dT K μ a t) + mj 65 ((nI 12 * (y ^^^ (nI 1 <<< (i &&& 31)))) + i).toNatClampNeg = nI (vT K μ a L t) := by
      rw [cln e1 (by omega), hRm t ht hb, nI_add]; rfl
    refine g_r_tourAt_65 ⟨_, R_has hy hi (by omega) (by omega), fun g => absurd hb (bt_r.mp g), fun _ => ⟨_, R_movesTo hK hμ T hx hi ht, ixn e1 e3 (by decide), fun _ => G _ _ _ hi e2 rfl, fun g => absurd ?_ g⟩⟩
    rw [ev, h5, he]; exact Int32.le_refl _
  · intro j hj ih hno i hi
    have ihn := ih (fun q h1 h2 => hno q h1 (by omega)) _ (inc hi)
    by_cases hb : bt L j = 1
    · obtain ⟨e1, e2, e3⟩ := xrK hK hL hb (show j < K by omega) hy hi
      have hv := vT_le (K := K) (μ := μ) (a := a) hb
      have ev : nI (dT K μ a j) + mj 65 ((nI 12 * (y ^^^ (nI 1 <<< (i &&& 31)))) + i).toNatClampNeg = nI (vT K μ a L j) := by
        rw [cln e1 (by omega), hRm j (by omega) hb, nI_add]; rfl
      refine g_r_tourAt_65 ⟨_, R_has hy hi (by omega) (by omega), fun g => absurd hb (bt_r.mp g), fun _ => ⟨_, R_movesTo hK hμ T hx hi (by omega), ixn e1 e3 (by decide), fun g => ?_, fun _ => ihn⟩⟩
      rw [ev, h5, nI_leN (by omega) (by omega)] at g
      have hge := (tgo_ex (K := K) (μ := μ) (a := a) (l := L) ⟨j, by omega, hb⟩).1 j (by omega) hb
      exact absurd (nxP_t.mpr ⟨hb, by omega⟩) (hno j hj (by omega))
    · exact g_r_tourAt_65 ⟨_, R_has hy hi (by omega) (by omega), fun _ => ihn, fun g => absurd (bt_r.mpr hb) g⟩
theorem fsB_no {p : Nat → Bool} : ∀ d j q, j ≤ q → q < fsB p d j → fsB p d j < j + d → ¬ p q = true
  | 0, j, q, h1, h2, _ => absurd h2 (Nat.not_lt_zero q)
  | d + 1, j, q, h1, h2, h3 => by
    have e : fsB p (d + 1) j = if p j = true then j else fsB p d (j + 1) := rfl
    by_cases hj : p j = true
    · rw [e, if_pos hj] at h2; omega
    · rw [e, if_neg hj] at h2 h3
      by_cases eq : q = j
      · rw [eq]; exact hj
      · exact fsB_no (p := p) d (j + 1) q (by omega) h2 (by omega)
theorem R_tourAtGo (hK : K ≤ 12) (hμ : ∀ q, q < K → μ q < 2 ^ 31) (T : RT K μ mj) (R : TQ K μ (2 ^ K) mj) {n : Nat} (hn : n < K) {l1 : Int32} (h1 : l1 = nI n) : ∀ j, j ≤ n + 1 → ∀ (x y l4 : Int32), frR K x (wkS K μ j).1 → y = nI (wkS K μ j).2 → l4 = nI j →
    Go m_r_tourAt 48 [some (vR 19 0 48), some (vI l1), some (vI x), some (vI y), some (vI l4), none, none] [] (some (vI (nI (wkS K μ (n + 1)).1))) c (MRc nb db by_ rs) mj mk (u2 (u2 mj 48 1 (nI 0)) 48 2 (-(nI 1))) mk := by
  have hp2 := p2K hK
  refine upto ?_ ?_
  · intro x y l4 hx hy h4
    obtain ⟨-, -, w3⟩ := wk_sp K μ (n + 1) (by omega)
    refine g_r_tourAt_48 ⟨fun _ => ⟨?_, rfl, rfl⟩, fun g => absurd ?_ g⟩
    · rcases hx with ⟨hx, -⟩ | ⟨hx, h12⟩
      · rw [hx]
      · rcases w3 with w3 | w3 <;> omega
    · rw [h1, h4, nI_ltI (by omega) (by omega)]; omega
  · intro j hj ih x y l4 hx hy h4
    obtain ⟨w1, w2, -⟩ := wk_sp K μ j (by omega)
    obtain ⟨n1, n2, n3⟩ := nx_sp (K := K) (μ := μ) (a := (wkS K μ j).1) (l := (wkS K μ j).2) (by omega)
    have hRm : ∀ q, q < K → bt (wkS K μ j).2 q = 1 → mj 65 (12 * ((wkS K μ j).2 ^^^ 2 ^ q) + q) = nI (tgo K μ q ((wkS K μ j).2 ^^^ 2 ^ q)) := fun q hq hb => R _ (by have := xb_lt hb; omega) q hq (by rw [bt_x hb, if_pos rfl])
    refine g_r_tourAt_48 ⟨fun g => ?_, fun _ => ⟨_, R_goes hK hμ T w1 hRm hx hy, ?_⟩⟩
    · rw [h1, h4, nI_ltI (by omega) (by omega)] at g; omega
    · refine TA_in hK hμ T R w1 hx hy rfl (nxT K μ (wkS K μ j).1 (wkS K μ j).2) n1 (nxP_t.mpr ⟨n2, n3⟩) (fun u v w hu hv hw => ih u v w (Or.inl ⟨hu, n1⟩) hv (by rw [hw, h4, nI_add])) 0 (by omega) (fun q hq _ => fsB_no K 0 q (by omega) hq (by show nxT K μ (wkS K μ j).1 (wkS K μ j).2 < 0 + K; omega)) _ rfl
end
