/-! ===== apart, common, sign, logged, about, size, fault, where, trouble ===== -/
/-- the benches that there are -/
def bns : List (Nat × Nat) := [(0, 3), (0, 7), (0, 15), (0, 31), (1, 3), (1, 7), (1, 11), (1, 19), (1, 23), (1, 31)]
theorem bn_in {kd N : Nat} (h : bnOK kd N = true) : (kd, N) ∈ bns := by
  simp only [bnOK, Bool.or_eq_true, Bool.and_eq_true, beq_iff_eq] at h
  simp only [bns, List.mem_cons, List.not_mem_nil, Prod.mk.injEq]
  omega
def apC (kd N i : Nat) : Nat → Nat
  | 0 => N
  | j + 1 => if j = i then apC kd N i j else (if pcN 32 (plN kd N i ^^^ plN kd N j) < apC kd N i j then pcN 32 (plN kd N i ^^^ plN kd N j) else apC kd N i j)
def apR (kd N i : Nat) : Nat → Nat
  | 0 => N + 1
  | j + 1 => if j = i then apR kd N i j else (if apR kd N i j ≤ pcN 32 (plN kd N i ^^^ plN kd N j) then apR kd N i j else pcN 32 (plN kd N i ^^^ plN kd N j))
def min0 (f : Nat → Nat) (i : Nat) (m : Nat) : Nat → Nat
  | 0 => m
  | j + 1 => if j = i then min0 f i m j else min (f j) (min0 f i m j)
theorem apC_m (kd N i : Nat) : ∀ j, apC kd N i j = min0 (fun j => pcN 32 (plN kd N i ^^^ plN kd N j)) i N j
  | 0 => rfl
  | j + 1 => by
    show (if j = i then _ else _) = (if j = i then _ else _)
    rw [apC_m kd N i j]
    dsimp only
    generalize pcN 32 (plN kd N i ^^^ plN kd N j) = p
    split
    · rfl
    · split <;> omega
theorem apR_m (kd N i : Nat) : ∀ j, apR kd N i j = min0 (fun j => pcN 32 (plN kd N i ^^^ plN kd N j)) i (N + 1) j
  | 0 => rfl
  | j + 1 => by
    show (if j = i then _ else _) = (if j = i then _ else _)
    rw [apR_m kd N i j]
    dsimp only
    generalize pcN 32 (plN kd N i ^^^ plN kd N j) = p
    split
    · rfl
    · split <;> omega
theorem min0_s (f : Nat → Nat) (i m : Nat) : ∀ j, min0 f i m j = min (min0 f i (m + 1) j) m
  | 0 => by show m = min (m + 1) m; omega
  | j + 1 => by
    show (if j = i then _ else _) = min (if j = i then _ else _) m
    rw [min0_s f i m j]
    split
    · rfl
    · omega
theorem min0_le (f : Nat → Nat) (i m : Nat) {k : Nat} (hk : k ≠ i) : ∀ j, k < j → min0 f i m j ≤ f k
  | 0, h => by omega
  | j + 1, h => by
    show (if j = i then _ else _) ≤ _
    by_cases e : j = i
    · rw [if_pos e]; exact min0_le f i m hk j (by omega)
    · rw [if_neg e]
      by_cases e2 : j = k
      · subst e2; omega
      · have := min0_le f i m hk j (by omega); omega
theorem pcN_lt : ∀ k m n, n < 2 ^ k → pcN (k + m) n ≤ k
  | 0, m, n, h => by
    have : n = 0 := by simp at h; exact h
    rw [this, pcN_0]; omega
  | k + 1, m, n, h => by
    rw [show k + 1 + m = (k + m) + 1 by omega]
    show n % 2 + pcN (k + m) (n / 2) ≤ k + 1
    have := pcN_lt k m (n / 2) (by rw [Nat.pow_succ] at h; omega)
    omega
theorem ap_eq {kd N i : Nat} (hN : 3 ≤ N) (h31 : N ≤ 31) : apC kd N i N = apR kd N i N := by
  rw [apC_m, apR_m, min0_s]
  have hk : ∃ k, k ≠ i ∧ k < N := by
    by_cases e : i = 0
    · exact ⟨1, by omega, by omega⟩
    · exact ⟨0, by omega, by omega⟩
  obtain ⟨k, h1, h2⟩ := hk
  have h3 := min0_le (fun j => pcN 32 (plN kd N i ^^^ plN kd N j)) i (N + 1) h1 N h2
  have h4 : pcN 32 (plN kd N i ^^^ plN kd N k) ≤ N := by
    have := pcN_lt N (32 - N) (plN kd N i ^^^ plN kd N k) (Nat.xor_lt_two_pow (bitsOf_lt _ _) (bitsOf_lt _ _))
    rw [show N + (32 - N) = 32 by omega] at this
    exact this
  have h3 : min0 (fun j => pcN 32 (plN kd N i ^^^ plN kd N j)) i (N + 1) N ≤ pcN 32 (plN kd N i ^^^ plN kd N k) := h3
  omega
theorem ap_lt (kd N i : Nat) (h : N ≤ 31) : ∀ j, apC kd N i j ≤ 32 ∧ apR kd N i j ≤ 32
  | 0 => ⟨by show N ≤ 32; omega, by show N + 1 ≤ 32; omega⟩
  | j + 1 => by
    have ih := ap_lt kd N i h j
    have := pcN_le 32 (plN kd N i ^^^ plN kd N j)
    show (if j = i then _ else _) ≤ 32 ∧ (if j = i then _ else _) ≤ 32
    constructor
    · split
      · exact ih.1
      · split <;> omega
    · split
      · exact ih.2
      · split <;> omega
theorem WF.bn {σ : SG} (h : WF σ) (hr : σ 0 0 = 1) : bnOK (σ 0 6).toNat (σ 0 5).toNat = true := by
  rcases h.1 with z | z
  · omega
  · exact z.2.1
theorem WF.n3 {σ : SG} (h : WF σ) (hr : σ 0 0 = 1) : 3 ≤ σ 0 5 := by
  have := h.bn hr
  simp only [bnOK, Bool.or_eq_true, Bool.and_eq_true, beq_iff_eq] at this
  omega
section
variable {nb db : Nat} {by_ rs : RX} {c : Nat} {σ : SG} {mi mj : MI} {ml mk : ML} {x j : Int32}
theorem A_apart (hb : nb = 43 ∧ db = 5 ∨ nb = 5 ∧ db = 43) (I : IC σ nb mi) (J : IR σ mj) : Agr m_w_apart m_r_apart [vI j] nb db by_ rs mi ml mj mk := by
  obtain ⟨hW, hs, hB⟩ := J
  by_cases h : InK σ 5 j
  · obtain ⟨i, ei, hi⟩ := h.nat
    obtain ⟨n, hn, h31⟩ := wf_n hW
    have hBn := (I.2.2 h.1).w (hbb_of hb) (nI 0)
    have hp : ∀ k, plN (σ 0 6).toNat (σ 0 5).toNat k < 2 ^ 31 := fun k => pl_lt _ _ _ (by omega)
    have hx32 : ∀ k, plN (σ 0 6).toNat (σ 0 5).toNat i ^^^ plN (σ 0 6).toNat (σ 0 5).toNat k < 2 ^ 32 := fun k => Nat.lt_trans (Nat.xor_lt_two_pow (hp i) (hp k)) (by decide)
    have en : (σ 0 5).toNat = n := by omega
    refine Agr.mk (vI (nI (apC (σ 0 6).toNat (σ 0 5).toNat i n))) 0 (by decide) (fun c => g_w_apart_0 hb ⟨_, _, _, R_one_t hb I h, fun _ => ?_, fun z => absurd z n10⟩) (fun c => g_r_apart_0 ⟨_, R_is_t hW (RMs_th hs _) h, fun _ => ?_, fun z => absurd z n10⟩)
    · have h0 := hBn.n hn
      have key : ∀ k, k ≤ n → ∀ q a, q = nI k → a = nI (apC (σ 0 6).toNat (σ 0 5).toNat i k) → Go m_w_apart 20 [some (vR 10 0 1), some (vI j), some (vI a), some (vI q)] [] (some (vI (nI (apC (σ 0 6).toNat (σ 0 5).toNat i n)))) c (MRc nb db by_ rs) (u2 mi 1 9 (nI 0)) ml (u2 mi 1 9 (nI 0)) ml := by
        refine upto ?_ ?_
        · intro q a hq ha
          exact g_w_apart_20 hb ⟨fun _ => ⟨by rw [ha], rfl, rfl⟩, fun h => absurd (lp_d h0 hq) h⟩
        · intro k hk ih q a hq ha
          have hk1 := (ap_lt (σ 0 6).toNat (σ 0 5).toNat i (by omega) k).1
          refine g_w_apart_20 hb ⟨fun h => absurd h (lp_g h0 hq hk (by omega)), fun _ => ⟨fun g => ih _ _ (inc hq) ?_, fun g => ⟨ixn ei (by omega) (by decide), ixn hq (by omega) (by decide), _, R_bitCount (hx32 k) ?_, ih _ _ (inc hq) ?_⟩⟩⟩
          · rw [hq, ei, nI_eq (by omega) (by omega)] at g
            rw [ha]
            show _ = nI (if k = i then _ else _)
            rw [if_pos g]
          · rw [cln ei (by omega), cln hq (by omega), hBn.pl hi, hBn.pl (by omega), nI_xor]
          · rw [hq, ei, nI_eq (by omega) (by omega)] at g
            rw [ha]
            show _ = nI (if k = i then _ else _)
            rw [if_neg g]
            have := pcN_le 32 (plN (σ 0 6).toNat (σ 0 5).toNat i ^^^ plN (σ 0 6).toNat (σ 0 5).toNat k)
            by_cases hl : pcN 32 (plN (σ 0 6).toNat (σ 0 5).toNat i ^^^ plN (σ 0 6).toNat (σ 0 5).toNat k) < apC (σ 0 6).toNat (σ 0 5).toNat i k
            · rw [if_pos hl, if_pos ((nI_ltI (by omega) (by omega)).mpr hl)]
            · rw [if_neg hl, if_neg (fun z => hl ((nI_ltI (by omega) (by omega)).mp z))]
      refine key 0 (by omega) _ _ rfl ?_
      rw [h0, ← en]; rfl
    · have h0 := hs.n hn
      have e9 : ∀ k : Nat, (k : Int) < σ 0 5 → u2 mj 48 0 (nI 0) 49 k = nI (plN (σ 0 6).toNat (σ 0 5).toNat k) := fun k hk => hB.1 k hk
      have key : ∀ k, k ≤ n → ∀ q a, q = nI k → a = nI (apR (σ 0 6).toNat (σ 0 5).toNat i k) → Go m_r_apart 28 [some (vR 19 0 48), some (vI j), some (vI a), some (vI q), none] [] (some (vI (nI (apC (σ 0 6).toNat (σ 0 5).toNat i n)))) c (MRc nb db by_ rs) (u2 mj 48 0 (nI 0)) mk (T3 mj 0) mk := by
        refine upto ?_ ?_
        · intro q a hq ha
          have hn3 := hW.n3 h.1
          exact g_r_apart_28 ⟨fun _ => ⟨by rw [ha, ← en, ap_eq (by omega) (by omega)], rfl, rfl⟩, fun h => absurd (lp_d h0 hq) h⟩
        · intro k hk ih q a hq ha
          have hk1 := (ap_lt (σ 0 6).toNat (σ 0 5).toNat i (by omega) k).2
          have := pcN_le 32 (plN (σ 0 6).toNat (σ 0 5).toNat i ^^^ plN (σ 0 6).toNat (σ 0 5).toNat k)
          refine g_r_apart_28 ⟨fun h => absurd h (lp_g h0 hq hk (by omega)), fun _ => ⟨ixn ei (by omega) (by decide), ixn hq (by omega) (by decide), _, R_many (hx32 k) ?_, fun g => ih _ _ (inc hq) ?_, fun g => ⟨fun g2 => ih _ _ (inc hq) ?_, fun g2 => ih _ _ (inc hq) ?_⟩⟩⟩
          · rw [cln ei (by omega), cln hq (by omega), e9 i hi, e9 k (by omega), nI_xor]
          · rw [hq, ei, nI_eq (by omega) (by omega)] at g
            rw [ha]
            show _ = nI (if k = i then _ else _)
            rw [if_pos g]
          · rw [hq, ei, nI_eq (by omega) (by omega)] at g
            rw [ha, nI_leN (by omega) (by omega)] at g2
            rw [ha]
            show _ = nI (if k = i then _ else _)
            rw [if_neg g, if_pos g2]
          · rw [hq, ei, nI_eq (by omega) (by omega)] at g
            rw [ha, nI_leN (by omega) (by omega)] at g2
            show _ = nI (if k = i then _ else _)
            rw [if_neg g, if_neg g2]
      refine key 0 (by omega) _ _ rfl ?_
      rw [h0, nI_add, ← en]; rfl
  · exact Agr.mk (vI (-(nI 1))) 1 (by decide) (fun c => g_w_apart_0 hb ⟨_, _, _, R_one_f hb I h, fun z => absurd rfl z, fun _ => ⟨rfl, rfl, rfl⟩⟩) (fun c => g_r_apart_0 ⟨_, R_is_f hW (RMs_th hs _) h, fun z => absurd rfl z, fun _ => ⟨rfl, rfl, rfl⟩⟩)
theorem A_common {y : Int32} (hb : nb = 43 ∧ db = 5 ∨ nb = 5 ∧ db = 43) (I : IC σ nb mi) (J : IR σ mj) : Agr m_w_common m_r_common [vI x, vI y] nb db by_ rs mi ml mj mk := by
  obtain ⟨hW, hs, hB⟩ := J
  have c5 : σ 0 0 = 1 → mi nb 0 = zI (σ 0 5) := fun z => (I.2.2 z).1
  have hn5 := hW.nn
  by_cases h : InK σ 5 x
  · have f1 := h.fac (by omega) I.2.1.1 c5
    by_cases h2 : InK σ 5 y
    · have f2 := h2.fac (by omega) I.2.1.1 c5
      obtain ⟨i, ei, hi⟩ := h.nat
      obtain ⟨k, ek, hk⟩ := h2.nat
      have hB1 := I.2.2 h.1
      have hp : plN (σ 0 6).toNat (σ 0 5).toNat i &&& plN (σ 0 6).toNat (σ 0 5).toNat k < 2 ^ 32 := Nat.lt_of_le_of_lt Nat.and_le_left (Nat.lt_trans (pl_lt _ _ _ (by omega)) (by decide))
      refine Agr.mk (vI (nI (pcN 32 (plN (σ 0 6).toNat (σ 0 5).toNat i &&& plN (σ 0 6).toNat (σ 0 5).toNat k)))) 0 (by decide) (fun c => g_w_common_0 hb (in3_t f1 ⟨fun z => absurd z f2.2.1, fun _ => ⟨fun z => absurd z f2.2.2, fun _ => ⟨ixn ei (by omega) (by decide), ixn ek (by omega) (by decide), _, R_bitCount hp ?_, rfl, rfl, rfl⟩⟩⟩)) (fun c => g_r_common_0 ⟨_, R_is_t hW (RMs_th hs _) h, fun z => absurd z n10, fun _ => ⟨_, R_is_t hW (RMs_th hs _) h2, fun z => absurd z n10, fun _ => ⟨ixn ei (by omega) (by decide), ixn ek (by omega) (by decide), _, R_many hp ?_, rfl, rfl, rfl⟩⟩⟩)
      · rw [cln ei (by omega), cln ek (by omega), hB1.pl hi, hB1.pl hk, nI_and]
      · rw [cln ei (by omega), cln ek (by omega), hB.1 i hi, hB.1 k hk, nI_and]
    · have f2 := nInK.fac (rd_01 hW) hn5.1 (by omega) I.2.1.1 c5 h2
      refine Agr.mk (vI (-(nI 1))) 1 (by decide) (fun c => g_w_common_0 hb (in3_t f1 ⟨fun _ => ⟨rfl, rfl, rfl⟩, fun z => ⟨fun _ => ⟨rfl, rfl, rfl⟩, fun z2 => ?_⟩⟩)) (fun c => g_r_common_0 ⟨_, R_is_t hW (RMs_th hs _) h, fun z => absurd z n10, fun _ => ⟨_, R_is_f hW (RMs_th hs _) h2, fun _ => ⟨rfl, rfl, rfl⟩, fun z => absurd rfl z⟩⟩)
      rcases f2 with f | f | f
      · exact absurd f f1.1
      · exact absurd f z
      · exact absurd f z2
  · exact Agr.mk (vI (-(nI 1))) 1 (by decide) (fun c => g_w_common_0 hb (in3_f (nInK.fac (rd_01 hW) hn5.1 (by omega) I.2.1.1 c5 h) ⟨rfl, rfl, rfl⟩)) (fun c => g_r_common_0 ⟨_, R_is_f hW (RMs_th hs _) h, fun _ => ⟨rfl, rfl, rfl⟩, fun z => absurd rfl z⟩)
/-- the reference's log, the oldest first -/
def RMl (σ : SG) (mj : MI) : Prop := ∀ i : Nat, (i : Int) < σ 0 11 → mj 58 ((σ 0 11).toNat - 1 - i) = zI (σ 5 i) ∧ mj 59 ((σ 0 11).toNat - 1 - i) = zI (σ 6 i)
/-! signs -/
theorem sg_par {r c : Nat} : ∀ t, r < 2 ^ t → c < 2 ^ t → pcN t (r &&& c) = (match t with | 0 => 0 | t + 1 => pcN t (r % 2 ^ t &&& c % 2 ^ t) + (if 2 ^ t ≤ r ∧ 2 ^ t ≤ c then 1 else 0))
  | 0, _, _ => rfl
  | t + 1, hr, hc => by
    show pcN (t + 1) (r &&& c) = pcN t (r % 2 ^ t &&& c % 2 ^ t) + (if 2 ^ t ≤ r ∧ 2 ^ t ≤ c then 1 else 0)
    have hp := Nat.two_pow_pos t
    rw [Nat.pow_succ] at hr hc
    have e1 := Nat.mod_add_div r (2 ^ t)
    have e2 := Nat.mod_add_div c (2 ^ t)
    have h1 : r / 2 ^ t < 2 := Nat.div_lt_of_lt_mul (by omega)
    have h2 : c / 2 ^ t < 2 := Nat.div_lt_of_lt_mul (by omega)
    have l1 := Nat.mod_lt r hp
    have l2 := Nat.mod_lt c hp
    have g1 : 2 ^ t ≤ r ↔ r / 2 ^ t = 1 := by
      constructor
      · intro h
        have := (Nat.le_div_iff_mul_le hp).mpr (show 1 * 2 ^ t ≤ r by omega)
        omega
      · intro h; rw [h] at e1; omega
    have g2 : 2 ^ t ≤ c ↔ c / 2 ^ t = 1 := by
      constructor
      · intro h
        have := (Nat.le_div_iff_mul_le hp).mpr (show 1 * 2 ^ t ≤ c by omega)
        omega
      · intro h; rw [h] at e2; omega
    have e3 : r &&& c = (r % 2 ^ t &&& c % 2 ^ t) + 2 ^ t * (r / 2 ^ t &&& c / 2 ^ t) := by
      conv => lhs; rw [← e1, ← e2]
      exact and_sp t l1 l2 _ _
    rw [e3, pcN_b _ t 1 (Nat.lt_of_le_of_lt Nat.and_le_left l1)]
    congr 1
    have : (r / 2 ^ t = 0 ∨ r / 2 ^ t = 1) ∧ (c / 2 ^ t = 0 ∨ c / 2 ^ t = 1) := by
      clear g1 g2 e1 e2 e3 l1 l2 hr hc hp
      generalize r / 2 ^ t = u at *
      generalize c / 2 ^ t = v at *
      omega
    obtain ⟨a | a, b | b⟩ := this
    · rw [if_neg (fun z => by have := g1.mp z.1; omega), a, b]; rfl
    · rw [if_neg (fun z => by have := g1.mp z.1; omega), a, b]; rfl
    · rw [if_neg (fun z => by have := g2.mp z.2; omega), a, b]; rfl
    · rw [if_pos ⟨g1.mpr a, g2.mpr b⟩, a, b]; rfl
def hfN : Nat → Nat
  | 0 => 0
  | t + 1 => 2 ^ t
def sgI (s : Bool) : Int32 := if s then -(nI 1) else nI 1
theorem sgI_n (s : Bool) : -(sgI s) = sgI (!s) := by cases s <;> decide
theorem R_sg {l0 l1 l2 : Int32} (c : Nat) {mr : MR} (hmr : mr = MRc nb db by_ rs) : ∀ t, t ≤ 30 → ∀ (s : Bool) (r q : Nat) (a4 a5 a6 : Int32), r < 2 ^ t → q < 2 ^ t → a4 = nI r → a5 = nI q → a6 = nI (hfN t) → Go m_r_signAt 15 [some (vI l0), some (vI l1), some (vI l2), some (vI (sgI s)), some (vI a4), some (vI a5), some (vI a6)] [] (some (vI (sgI (xor s (pcN t (r &&& q) % 2 == 1))))) c mr mj mk mj mk := by
  subst hmr
  intro t
  induction t with
  | zero =>
    intro _ s r q a4 a5 a6 _ _ _ _ h6
    refine g_r_signAt_15 ⟨fun _ => ⟨?_, rfl, rfl⟩, fun g => absurd ?_ g⟩
    · show some (vI (sgI (xor s (0 % 2 == 1)))) = _
      cases s <;> rfl
    · rw [h6]; decide
  | succ t ih =>
    intro ht s r q a4 a5 a6 hr hq h4 h5 h6
    have h6 : a6 = nI (2 ^ t) := h6
    have hp := Nat.two_pow_pos t
    have hp30 : 2 ^ t ≤ 2 ^ 29 := Nat.pow_le_pow_right (by decide) (by omega)
    have hr31 : 2 ^ (t + 1) ≤ 2 ^ 30 := Nat.pow_le_pow_right (by decide) ht
    have n0 : ¬ a6 = 0 := fun z => by
      rw [h6] at z
      have := nI_ne0' (by omega) z
      omega
    have m4 : rmI a4 a6 = nI (r % 2 ^ t) := by rw [h4, h6]; exact pk_rem (by omega) hp (by omega)
    have m5 : rmI a5 a6 = nI (q % 2 ^ t) := by rw [h5, h6]; exact pk_rem (by omega) hp (by omega)
    have m6 : a6 >>> (nI 1 &&& 31) = nI (hfN t) := by
      rw [h6, pk_shrN (by omega) _ 1 (sh_am 1 (by decide))]
      cases t with
      | zero => rfl
      | succ t => show nI (2 ^ (t + 1) / 2 ^ 1) = nI (2 ^ t); rw [Nat.pow_succ, Nat.pow_one, Nat.mul_div_cancel _ (by decide)]
    have hsp := sg_par (t + 1) hr hq
    have hsp : pcN (t + 1) (r &&& q) = pcN t (r % 2 ^ t &&& q % 2 ^ t) + (if 2 ^ t ≤ r ∧ 2 ^ t ≤ q then 1 else 0) := hsp
    have no : ¬ (2 ^ t ≤ r ∧ 2 ^ t ≤ q) → Go m_r_signAt 15 [some (vI l0), some (vI l1), some (vI l2), some (vI (sgI s)), some (vI (rmI a4 a6)), some (vI (rmI a5 a6)), some (vI (a6 >>> (nI 1 &&& 31)))] [] (some (vI (sgI (xor s (pcN (t + 1) (r &&& q) % 2 == 1))))) c (MRc nb db by_ rs) mj mk mj mk := fun hn => by
      rw [hsp, if_neg hn, Nat.add_zero]
      exact ih (by omega) s _ _ _ _ _ (Nat.mod_lt _ hp) (Nat.mod_lt _ hp) m4 m5 m6
    refine g_r_signAt_15 ⟨fun g => absurd g ?_, fun _ => ⟨fun g => ⟨n0, n0, no ?_⟩, fun g => ⟨fun g2 => ⟨n0, n0, no ?_⟩, fun g2 => ⟨n0, n0, ?_⟩⟩⟩⟩
    · rw [h6, show (0 : Int32) = nI 0 from rfl, nI_leN (by omega) (by decide)]; omega
    · rw [h4, h6, nI_ltI (by omega) (by omega)] at g; omega
    · rw [h5, h6, nI_ltI (by omega) (by omega)] at g2; omega
    · rw [h4, h6, nI_ltI (by omega) (by omega)] at g
      rw [h5, h6, nI_ltI (by omega) (by omega)] at g2
      rw [hsp, if_pos ⟨by omega, by omega⟩, sgI_n]
      have := ih (by omega) (!s) _ _ _ _ _ (Nat.mod_lt r hp) (Nat.mod_lt q hp) m4 m5 m6
      have e : (xor s ((pcN t (r % 2 ^ t &&& q % 2 ^ t) + 1) % 2 == 1)) = xor (!s) (pcN t (r % 2 ^ t &&& q % 2 ^ t) % 2 == 1) := by
        rcases Nat.mod_two_eq_zero_or_one (pcN t (r % 2 ^ t &&& q % 2 ^ t)) with z | z
        · rw [z, show (pcN t (r % 2 ^ t &&& q % 2 ^ t) + 1) % 2 = 1 by omega]; cases s <;> rfl
        · rw [z, show (pcN t (r % 2 ^ t &&& q % 2 ^ t) + 1) % 2 = 0 by omega]; cases s <;> rfl
      rw [e]; exact this
theorem pcN_up {t m n : Nat} (h : n < 2 ^ t) : pcN (t + m) n = pcN t n := by
  have := pcN_b n t m h 0
  rw [Nat.mul_zero, Nat.add_zero, pcN_0, Nat.add_zero] at this
  exact this
theorem R_signAt {x y z : Int32} {t r q : Nat} (ht : t ≤ 30) (hx : x = nI t) (hy : y = nI r) (hz : z = nI q) (hr : r < 2 ^ t) (hq : q < 2 ^ t) : Ret m_r_signAt [vI x, vI y, vI z] (some (vI (sgI (pcN 32 (r &&& q) % 2 == 1)))) c (MRc nb db by_ rs) mj mk mj mk := by
  refine g_r_signAt_0 ?_
  have hp30 : 2 ^ t ≤ 2 ^ 30 := Nat.pow_le_pow_right (by decide) ht
  have h := R_sg (l0 := x) (l1 := y) (l2 := z) (mj := mj) (mk := mk) (nb := nb) (db := db) (by_ := by_) (rs := rs) c rfl t ht false r q y z (nI 1 <<< (x &&& 31) >>> (nI 1 &&& 31)) hr hq hy hz ?_
  · have e : pcN 32 (r &&& q) = pcN t (r &&& q) := by
      have := pcN_up (m := 32 - t) (Nat.lt_of_le_of_lt (Nat.and_le_left (n := r) (m := q)) hr)
      rw [show t + (32 - t) = 32 by omega] at this
      exact this
    rw [e]
    rw [Bool.false_xor] at h
    exact h
  · rw [shl_n rfl hx (by omega) (by omega), Nat.one_mul, pk_shrN (by omega) _ 1 (sh_am 1 (by decide))]
    cases t with
    | zero => rfl
    | succ t => show nI (2 ^ (t + 1) / 2 ^ 1) = nI (2 ^ t); rw [Nat.pow_succ, Nat.pow_one, Nat.mul_div_cancel _ (by decide)]
theorem A_sign {x y z : Int32} (I : IC σ nb mi) (J : IR σ mj) : Agr m_w_sign m_r_sign [vI x, vI y, vI z] nb db by_ rs mi ml mj mk := by
  by_cases h0 : x < 0
  · exact Agr.mk (vI (nI 0)) 2 (by decide) (fun c => g_w_sign_0 ⟨fun _ => ⟨rfl, rfl, rfl⟩, fun g => absurd h0 g⟩) (fun c => g_r_sign_0 ⟨fun _ => ⟨rfl, rfl, rfl⟩, fun g => absurd h0 g⟩)
  by_cases h1 : nI 9 < x
  · exact Agr.mk (vI (nI 0)) 2 (by decide) (fun c => g_w_sign_0 ⟨fun g => absurd g h0, fun _ => ⟨fun _ => ⟨rfl, rfl, rfl⟩, fun g => absurd h1 g⟩⟩) (fun c => g_r_sign_0 ⟨fun g => absurd g h0, fun _ => ⟨fun _ => ⟨rfl, rfl, rfl⟩, fun g => absurd h1 g⟩⟩)
  obtain ⟨t, ht31, et⟩ := nI_of h0
  have ht : t ≤ 9 := by rw [et, nI_ltI (by decide) ht31] at h1; omega
  have hp : 2 ^ t ≤ 2 ^ 9 := Nat.pow_le_pow_right (by decide) ht
  have es : nI 1 <<< (x &&& 31) = nI (2 ^ t) := by rw [shl_n rfl et (by omega) (by omega), Nat.one_mul]
  have key : ∀ y : Int32, ¬ y < 0 → (nI 1 <<< (x &&& 31) ≤ y ↔ nI 1 <<< (x &&& 31) - nI 1 < y) := by
    intro y hy
    obtain ⟨r, hr, rfl⟩ := nI_of hy
    have := Nat.two_pow_pos t
    rw [es, nI_sub (by omega), nI_leN (by omega) hr, nI_ltI (by omega) hr]
    omega
  by_cases h2 : y < 0
  · exact Agr.mk (vI (nI 0)) 2 (by decide) (fun c => g_w_sign_0 ⟨fun g => absurd g h0, fun _ => ⟨fun g => absurd g h1, fun _ => ⟨fun _ => ⟨rfl, rfl, rfl⟩, fun g => absurd h2 g⟩⟩⟩) (fun c => g_r_sign_0 ⟨fun g => absurd g h0, fun _ => ⟨fun g => absurd g h1, fun _ => ⟨fun _ => ⟨rfl, rfl, rfl⟩, fun g => absurd h2 g⟩⟩⟩)
  by_cases h3 : nI 1 <<< (x &&& 31) ≤ y
  · exact Agr.mk (vI (nI 0)) 2 (by decide) (fun c => g_w_sign_0 ⟨fun g => absurd g h0, fun _ => ⟨fun g => absurd g h1, fun _ => ⟨fun g => absurd g h2, fun _ => ⟨fun _ => ⟨rfl, rfl, rfl⟩, fun g => absurd h3 g⟩⟩⟩⟩) (fun c => g_r_sign_0 ⟨fun g => absurd g h0, fun _ => ⟨fun g => absurd g h1, fun _ => ⟨fun g => absurd g h2, fun _ => ⟨fun _ => ⟨rfl, rfl, rfl⟩, fun g => absurd ((key y h2).mp h3) g⟩⟩⟩⟩)
  by_cases h4 : z < 0
  · exact Agr.mk (vI (nI 0)) 2 (by decide) (fun c => g_w_sign_0 ⟨fun g => absurd g h0, fun _ => ⟨fun g => absurd g h1, fun _ => ⟨fun g => absurd g h2, fun _ => ⟨fun g => absurd g h3, fun _ => ⟨fun _ => ⟨rfl, rfl, rfl⟩, fun g => absurd h4 g⟩⟩⟩⟩⟩) (fun c => g_r_sign_0 ⟨fun g => absurd g h0, fun _ => ⟨fun g => absurd g h1, fun _ => ⟨fun g => absurd g h2, fun _ => ⟨fun g => absurd ((key y h2).mpr g) h3, fun _ => ⟨fun _ => ⟨rfl, rfl, rfl⟩, fun g => absurd h4 g⟩⟩⟩⟩⟩)
  by_cases h5 : nI 1 <<< (x &&& 31) ≤ z
  · exact Agr.mk (vI (nI 0)) 2 (by decide) (fun c => g_w_sign_0 ⟨fun g => absurd g h0, fun _ => ⟨fun g => absurd g h1, fun _ => ⟨fun g => absurd g h2, fun _ => ⟨fun g => absurd g h3, fun _ => ⟨fun g => absurd g h4, fun _ => ⟨fun _ => ⟨rfl, rfl, rfl⟩, fun g => absurd h5 g⟩⟩⟩⟩⟩⟩) (fun c => g_r_sign_0 ⟨fun g => absurd g h0, fun _ => ⟨fun g => absurd g h1, fun _ => ⟨fun g => absurd g h2, fun _ => ⟨fun g => absurd ((key y h2).mpr g) h3, fun _ => ⟨fun g => absurd g h4, fun _ => ⟨fun _ => ⟨rfl, rfl, rfl⟩, fun g => absurd ((key z h4).mp h5) g⟩⟩⟩⟩⟩⟩)
  obtain ⟨r, hr31, er⟩ := nI_of h2
  obtain ⟨q, hq31, eq⟩ := nI_of h4
  have hr : r < 2 ^ t := by rw [es, er, nI_leN (by omega) hr31] at h3; omega
  have hq : q < 2 ^ t := by rw [es, eq, nI_leN (by omega) hq31] at h5; omega
  have hrq : r &&& q < 2 ^ 32 := Nat.lt_of_le_of_lt Nat.and_le_left (by omega)
  have hpc := pcN_le 32 (r &&& q)
  have hb1 : nI (pcN 32 (r &&& q)) &&& nI 1 = nI (pcN 32 (r &&& q) % 2) := pk_andN (by omega) (m := nI 1) 1 (by decide)
  refine Agr.mk (vI (sgI (pcN 32 (r &&& q) % 2 == 1))) 0 (by decide) (fun c => g_w_sign_0 ⟨fun g => absurd g h0, fun _ => ⟨fun g => absurd g h1, fun _ => ⟨fun g => absurd g h2, fun _ => ⟨fun g => absurd g h3, fun _ => ⟨fun g => absurd g h4, fun _ => ⟨fun g => absurd g h5, fun _ => ⟨_, R_bitCount hrq (by rw [er, eq, nI_and]), fun g => ⟨?_, rfl, rfl⟩, fun g => ⟨?_, rfl, rfl⟩⟩⟩⟩⟩⟩⟩⟩) (fun c => g_r_sign_0 ⟨fun g => absurd g h0, fun _ => ⟨fun g => absurd g h1, fun _ => ⟨fun g => absurd g h2, fun _ => ⟨fun g => absurd ((key y h2).mpr g) h3, fun _ => ⟨fun g => absurd g h4, fun _ => ⟨fun g => absurd ((key z h4).mpr g) h5, fun _ => ⟨_, R_signAt (by omega) et er eq hr hq, rfl, rfl, rfl⟩⟩⟩⟩⟩⟩⟩)
  · rw [hb1] at g
    rcases Nat.mod_two_eq_zero_or_one (pcN 32 (r &&& q)) with w | w
    · rw [w] at g; exact absurd rfl g
    · rw [w]; rfl
  · rw [hb1] at g
    rcases Nat.mod_two_eq_zero_or_one (pcN 32 (r &&& q)) with w | w
    · rw [w]; rfl
    · rw [w] at g; exact absurd g (by decide)
theorem A_logged {y : Int32} (I : IC σ nb mi) (L : RCl σ mi) (J : IR σ mj) (K : RMl σ mj) : Agr m_w_logged m_r_logged [vI x, vI y] nb db by_ rs mi ml mj mk := by
  obtain ⟨hW, hs, hB⟩ := J
  have h20 := hW.lg
  have c4 : σ 0 0 = 1 → mi 11 2 = zI (σ 0 11) := fun _ => I.2.1.2.2.2.2.2.2.2.2.1
  have c9 : σ 0 0 = 1 → mj 48 43 = zI (σ 0 11) := fun _ => hs.2.2.2.2.2.2.2.2.1
  by_cases h : InK σ 11 x
  · have f1 := h.fac (by omega) I.2.1.1 c4
    have f2 := h.fac (by omega) hs.rd c9
    obtain ⟨i, ei, hi⟩ := h.nat
    have e3 : mj 48 43 - nI 1 - x = nI ((σ 0 11).toNat - 1 - i) := by
      rw [c9 h.1, ei, show zI (σ 0 11) = nI (σ 0 11).toNat by rw [nI_z, Int.toNat_of_nonneg h20.1], nI_sub (by omega), nI_sub (by omega)]
    by_cases hy0 : y = 0
    · subst hy0
      refine Agr.mk (vI (zI (σ 5 i))) 0 (by decide) (fun c => g_w_logged_0 (in3_t f1 ⟨fun _ => ⟨fun z => absurd rfl z, fun _ => ⟨ixn ei (by omega) (by decide), ?_, rfl, rfl⟩⟩, fun z => absurd rfl z⟩)) (fun c => g_r_logged_0 (in3_t f2 ⟨fun z => absurd z (by decide), fun _ => ⟨fun z => absurd z (by decide), fun _ => ⟨fun z => absurd rfl z, fun _ => ⟨ixn e3 (by omega) (by decide), ?_, rfl, rfl⟩⟩⟩⟩))
      · rw [cln ei (by omega), (L i hi).1]
      · rw [cln e3 (by omega), (K i hi).1]
    · by_cases hy1 : y = nI 1
      · subst hy1
        refine Agr.mk (vI (zI (σ 6 i))) 0 (by decide) (fun c => g_w_logged_0 (in3_t f1 ⟨fun z => absurd z n10, fun _ => ⟨fun z => absurd rfl z, fun _ => ⟨fun _ => ⟨ixn ei (by omega) (by decide), ?_, rfl, rfl⟩, fun z => absurd z n10⟩⟩⟩)) (fun c => g_r_logged_0 (in3_t f2 ⟨fun z => absurd z (by decide), fun _ => ⟨fun z => absurd z (by decide), fun _ => ⟨fun _ => ⟨ixn e3 (by omega) (by decide), ?_, rfl, rfl⟩, fun z => absurd z n10⟩⟩⟩))
        · rw [cln ei (by omega), (L i hi).2]
        · rw [cln e3 (by omega), (K i hi).2]
      · refine Agr.mk (vI (-(nI 1))) 1 (by decide) (fun c => g_w_logged_0 (in3_t f1 ⟨fun z => absurd z hy0, fun _ => ⟨fun _ => ⟨rfl, rfl, rfl⟩, fun z => absurd z hy1⟩⟩)) (fun c => g_r_logged_0 (in3_t f2 ⟨fun _ => ⟨rfl, rfl, rfl⟩, fun z => ⟨fun _ => ⟨rfl, rfl, rfl⟩, fun z2 => ?_⟩⟩))
        exfalso
        obtain ⟨k, hk, rfl⟩ := nI_of (x := y) z
        rw [nI_ltI (by decide) hk] at z2
        have : k = 0 ∨ k = 1 := by omega
        rcases this with rfl | rfl
        · exact hy0 rfl
        · exact hy1 rfl
  · exact Agr.mk (vI (-(nI 1))) 1 (by decide) (fun c => g_w_logged_0 (in3_f (nInK.fac (rd_01 hW) h20.1 (by omega) I.2.1.1 c4 h) ⟨rfl, rfl, rfl⟩)) (fun c => g_r_logged_0 (in3_f (nInK.fac (rd_01 hW) h20.1 (by omega) hs.rd c9 h) ⟨rfl, rfl, rfl⟩))
end
