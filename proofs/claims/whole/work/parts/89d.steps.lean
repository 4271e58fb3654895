/-! ===== class and reference read a text step by step ===== -/
def AT (t : Nat → Nat) (e a : Nat) (mi mj : MI) (mk : ML) : Prop := a ≤ e ∧ KC t e a mi ∧ TC t e mi ∧ KR t e a mj mk ∧ TM t e mj ∧ mj 48 38 = nI 0 ∧ mi 4 0 = nI 0
/-- the reference has found a fault -/
def DR (f : Nat) (mj : MI) : Prop := 0 < f ∧ f ≤ 5 ∧ mj 48 38 = nI f ∧ mj 48 35 = nI 0
/-- both have found the same fault -/
def DD (f a : Nat) (mi mj : MI) : Prop := mi 4 0 = nI f ∧ mi 4 1 = nI a ∧ DR f mj ∧ mj 48 36 = nI a
def FSc (m m' : MI) : Prop := (∀ a, a ≠ 4 → m' a = m a) ∧ ∀ k, k = 4 ∨ 9 < k → m' 4 k = m 4 k
def FSr (m m' : MI) (l l' : ML) : Prop := (∀ a, a ≠ 48 → m' a = m a) ∧ (∀ k, k < 34 ∨ 38 < k → m' 48 k = m 48 k) ∧ ∀ a, a ≠ 48 → l' a = l a
def nxA (t : Nat → Nat) (e a : Nat) : Nat := tkA t e (tkB t e a)
theorem nxA_in {t : Nat → Nat} {e a : Nat} (h : a < e) : a < nxA t e a ∧ nxA t e a ≤ e := by
  have h1 := tkB_lt (t := t) h
  have h2 := tkB_in (t := t) (show a ≤ e by omega)
  have h3 := tkA_in (t := t) h2.2
  unfold nxA; omega
theorem vlN_lt {t : Nat → Nat} {a : Nat} : ∀ n, (∀ i, i < n → 48 ≤ t (a + i) ∧ t (a + i) ≤ 57) → vlN t a n < 10 ^ n
  | 0, _ => Nat.zero_lt_one
  | n + 1, h => by
    have h1 := vlN_lt n (fun i hi => h i (by omega))
    have h2 := h n (by omega)
    show 10 * vlN t a n + t (a + n) - 48 < 10 ^ (n + 1)
    rw [Nat.pow_succ]; omega
theorem tk_whole {t : Nat → Nat} {e a : Nat} (h : tkK t e a = 3) : a < e ∧ vlN t a (tkB t e a - a) < 1000000 := by
  have hae := tkK_e (t := t) (e := e) (a := a) (by omega)
  refine ⟨hae, ?_⟩
  unfold tkK at h
  rw [if_neg (by omega)] at h
  by_cases g : gLt t a = true
  · rw [if_pos g] at h
    split at h <;> exact absurd h (by decide)
  · rw [if_neg g] at h
    by_cases g2 : gDg t a = true
    · rw [if_pos g2] at h
      have eB : tkB t e a = tto (gDg t) e a := by unfold tkB; rw [if_neg (by omega), if_neg g, if_pos g2]
      rw [eB]
      by_cases l : tto (gDg t) e a - a ≤ 6
      · have b := vlN_lt (t := t) (a := a) (tto (gDg t) e a - a) (fun i hi => (gDg_i t (a + i)).mp (tto_all (p := a) (e := e) (by omega) (by omega)))
        have p : 10 ^ (tto (gDg t) e a - a) ≤ 10 ^ 6 := Nat.pow_le_pow_right (by decide) l
        omega
      · rw [if_neg l] at h; exact absurd h (by decide)
    · rw [if_neg g2] at h
      split at h <;> exact absurd h (by decide)
section
variable {nb db nc dc : Nat} {by_ rs : RX} {c : Nat} {mi mj : MI} {ml mk : ML} {t : Nat → Nat} {e p a w f : Nat} {x y z : Int32}
theorem FSc.rf : FSc mi mi := ⟨fun _ _ => rfl, fun _ _ => rfl⟩
theorem FSc.tr {m1 m2 m3 : MI} (h : FSc m1 m2) (g : FSc m2 m3) : FSc m1 m3 := ⟨fun a ha => by rw [g.1 a ha, h.1 a ha], fun k hk => by rw [g.2 k hk, h.2 k hk]⟩
theorem FSc.u {m : MI} {k : Nat} (v : Int32) (hk : k < 4 ∨ (4 < k ∧ k ≤ 9)) : FSc m (u2 m 4 k v) := ⟨fun a ha => u2_o _ _ ha, fun j hj => u2_ne2 _ _ (Or.inr (by omega))⟩
theorem FTc.s {m m' : MI} (h : FTc m m') : FSc m m' := ⟨h.1, fun k hk => h.2 k (by omega)⟩
theorem FSr.rf : FSr mj mj mk mk := ⟨fun _ _ => rfl, fun _ _ => rfl, fun _ _ => rfl⟩
theorem FSr.tr {m1 m2 m3 : MI} {l1 l2 l3 : ML} (h : FSr m1 m2 l1 l2) (g : FSr m2 m3 l2 l3) : FSr m1 m3 l1 l3 := ⟨fun a ha => by rw [g.1 a ha, h.1 a ha], fun k hk => by rw [g.2.1 k hk, h.2.1 k hk], fun a ha => by rw [g.2.2 a ha, h.2.2 a ha]⟩
theorem FTr.s {m m' : MI} {l l' : ML} (h : FTr m m' l l') : FSr m m' l l' := ⟨h.1, fun k hk => h.2.1 k (by omega), h.2.2⟩
theorem FSr.u {m : MI} {l : ML} {k : Nat} (v : Int32) (hk : 34 ≤ k ∧ k ≤ 38) : FSr m (u2 m 48 k v) l l := ⟨fun a ha => u2_o _ _ ha, fun j hj => u2_ne2 _ _ (Or.inr (by omega)), fun _ _ => rfl⟩
theorem DR.nz (h : DR f mj) : ¬ mj 48 38 = 0 := by
  rw [h.2.2.1, show (0 : Int32) = nI 0 from rfl, nI_eq (by have := h.2.1; omega) (by decide)]
  have := h.1; omega
theorem DR.np (h : DR f mj) : ¬ mj 48 38 ≤ 0 := by
  rw [h.2.2.1, show (0 : Int32) = nI 0 from rfl, nI_leI (by have := h.2.1; omega) (by decide)]
  have := h.1; omega
theorem DR.id (h : DR f mj) : u2 mj 48 35 (nI 0) = mj := u2_id2 h.2.2.2
theorem DR.mk0 (f0 : 0 < f) (f5 : f ≤ 5) : DR f (u2 (u2 mj 48 38 (nI f)) 48 35 (nI 0)) := ⟨f0, f5, by rw [u2_ne2 _ _ (Or.inr (by decide)), u2_s], by rw [u2_s]⟩
theorem D_next (h : DR f mj) : Ret m_r_next [vR 19 0 48] none c (MRc nb db by_ rs) mj mk mj mk := g_r_next_0 ⟨fun z => absurd z h.np, fun _ => ⟨rfl, rfl, rfl⟩⟩
theorem D_isW (h : DR f mj) (hw : w < 15) (h0 : 0 < w) : Ret m_r_isWord [vR 19 0 48, vR 100 0 w] (some (vI (nI 0))) c (MRc nb db by_ rs) mj mk mj mk :=
  W_r_go hw h0 _ ⟨fun _ => rfl, fun z => absurd (by rw [h.2.2.2] at z; exact z) (by decide)⟩
theorem D_needs (h : DR f mj) (hw : w < 15) (h0 : 0 < w) : Ret m_r_needs [vR 19 0 48, vR 100 0 w] none c (MRc nb db by_ rs) mj mk mj mk :=
  g_r_needs_0 ⟨_, _, _, D_isW h hw h0, fun z => absurd rfl z, fun _ => ⟨fun _ => ⟨mj, mk, by rw [h.id]; exact D_next h, rfl, rfl, rfl⟩, fun z => absurd z h.nz⟩⟩
theorem D_wholeAt (h : DR f mj) (x y : Int32) : Ret m_r_wholeAt [vR 19 0 48, vI x, vI y] (some (vI x)) c (MRc nb db by_ rs) mj mk mj mk :=
  g_r_wholeAt_0 ⟨fun z => absurd (by rw [h.2.2.2] at z; exact z) (by decide), fun _ => ⟨fun _ => ⟨fun z => absurd z h.np, fun _ => ⟨rfl, h.id.symm, rfl⟩⟩, fun z => absurd z h.nz⟩⟩
theorem D_readWhole (h : DR f mj) (x y : Int32) : Ret m_r_readWhole [vR 19 0 48, vI x, vI y] (some (vI x)) c (MRc nb db by_ rs) mj mk mj mk :=
  g_r_readWhole_0 ⟨_, _, _, D_wholeAt h x y, _, _, D_next h, rfl, rfl, rfl⟩
theorem D_readNew (h : DR f mj) (x : Int32) : Ret m_r_readNew [vR 19 0 48, vI x] (some (vI (nI 0))) c (MRc nb db by_ rs) mj mk mj mk :=
  g_r_readNew_0 ⟨_, _, _, D_wholeAt h _ _, fun _ => ⟨_, _, D_next h, fun z => absurd z h.np, fun _ => ⟨rfl, rfl, rfl⟩⟩, fun z => absurd z h.nz⟩
theorem J_next (he : e ≤ 800) (ht : ∀ k, t k ≤ 255) (A : AT t e a mi mj mk) (hk : tkK t e a ≠ 0) :
    ∃ mi' mj' mk', Ret m_rd_next [vR 12 0 4] none c (MRc nb db (some (0, 800, 3)) rs) mi ml mi' ml ∧ Ret m_r_next [vR 19 0 48] none c (MRc nc dc (some (0, 800, 3)) rs) mj mk mj' mk' ∧ AT t e (nxA t e a) mi' mj' mk' ∧ FTc mi mi' ∧ FTr mj mj' mk mk' := by
  obtain ⟨ha, K, T, K', T', h38, h40⟩ := A
  have hB := tkB_in (t := t) ha
  obtain ⟨mi', c1, c2, c3⟩ := R_rdnext (nb := nb) (db := db) (rs := rs) (c := c) (ml := ml) T he ht (K.2.2.1 hk) hB.2
  obtain ⟨mj', mk', d1, d2, d3⟩ := R_rnext (nb := nc) (db := dc) (by_ := some (0, 800, 3)) (rs := rs) (c := c) (mk := mk) T' he ht h38 (K'.2.2.1 hk) hB.2
  exact ⟨mi', mj', mk', c1, d1, ⟨(tkA_in hB.2).2, c2, T.fr c3, d2, T'.fr d3, by rw [d3.2.1 38 (by omega)]; exact h38, by rw [c3.2 0 (by omega)]; exact h40⟩, c3, d3⟩
theorem DD.of (hi : mi 4 0 = nI f) (hi2 : mi 4 1 = nI a) (f0 : 0 < f) (f5 : f ≤ 5) (h36 : mj 48 36 = nI a) : DD f a mi (u2 (u2 mj 48 38 (nI f)) 48 35 (nI 0)) :=
  ⟨hi, hi2, DR.mk0 f0 f5, by rw [u2_ne2 _ _ (Or.inr (by decide)), u2_ne2 _ _ (Or.inr (by decide)), h36]⟩
theorem DD.at (A : AT t e a mi mj mk) (f0 : 0 < f) (f5 : f ≤ 5) : DD f a (u2 (u2 mi 4 0 (nI f)) 4 1 (mi 4 6)) (u2 (u2 mj 48 38 (nI f)) 48 35 (nI 0)) :=
  DD.of (by rw [u2_ne2 _ _ (Or.inr (by decide)), u2_s]) (by rw [u2_s, A.2.1.2.1]) f0 f5 A.2.2.2.1.2.1
theorem FSc.fl : FSc mi (u2 (u2 mi 4 0 x) 4 1 y) := (FSc.u _ (by decide)).tr (FSc.u _ (by decide))
theorem FSr.fl : FSr mj (u2 (u2 mj 48 38 x) 48 35 y) mk mk := (FSr.u _ (by decide)).tr (FSr.u _ (by decide))
/-- a word that must come -/
theorem J_word (he : e ≤ 800) (ht : ∀ k, t k ≤ 255) (A : AT t e a mi mj mk) (hw : w < 15) (h0 : 0 < w) :
    ∃ r mi' mj' mk', Ret m_rd_takeWord [vR 12 0 4, vR 100 0 w] (some (vI r)) c (MRc nb db (some (0, 800, 3)) rs) mi ml mi' ml ∧ Ret m_r_needs [vR 19 0 48, vR 100 0 w] none c (MRc nc dc (some (0, 800, 3)) rs) mj mk mj' mk' ∧ FSc mi mi' ∧ FSr mj mj' mk mk' ∧ ((r = nI 1 ∧ isW t e a w ∧ mi' 4 9 = mi 4 9 ∧ AT t e (nxA t e a) mi' mj' mk') ∨ (r = nI 0 ∧ ∃ f, DD f a mi' mj')) := by
  by_cases h : isW t e a w
  · obtain ⟨mi', mj', mk', c1, d1, A', c3, d3⟩ := J_next (nc := nc) (dc := dc) (nb := nb) (db := db) (rs := rs) (c := c) (ml := ml) he ht A (by rw [h.1]; decide)
    exact ⟨nI 1, mi', mj', mk', g_rd_takeWord_0 ⟨_, _, _, W_c_t A.2.1 A.2.2.1 he hw h0 h, fun _ => ⟨_, _, c1, rfl, rfl, rfl⟩, fun z => absurd z (by decide)⟩, g_r_needs_0 ⟨_, _, _, W_r_t A.2.2.2.1 hw h0 h, fun _ => ⟨_, _, d1, rfl, rfl, rfl⟩, fun z => absurd z (by decide)⟩, c3.s, d3.s, Or.inl ⟨rfl, h, c3.2 9 (by omega), A'⟩⟩
  · exact ⟨nI 0, _, _, mk, g_rd_takeWord_0 ⟨_, _, _, W_c_f A.2.1 A.2.2.1 he ht hw h0 h, fun z => absurd rfl z, fun _ => ⟨rfl, rfl, rfl⟩⟩, g_r_needs_0 ⟨_, _, _, W_r_f A.2.2.2.1 hw h0 h, fun z => absurd rfl z, fun _ => ⟨fun z => absurd A.2.2.2.2.2.1 z, fun _ => ⟨_, _, D_next (DR.mk0 (by decide) (by decide)), rfl, rfl, rfl⟩⟩⟩, FSc.fl, FSr.fl, Or.inr ⟨rfl, 1, DD.at A (by decide) (by decide)⟩⟩
/-- a whole: the reference's look at it -/
theorem R_wholeAt {lo hi : Nat} (hlo : lo < 2 ^ 31) (hhi : hi < 2 ^ 31) (A : AT t e a mi mj mk) : (tkK t e a = 3 ∧ lo ≤ vlN t a (tkB t e a - a) ∧ vlN t a (tkB t e a - a) ≤ hi ∧ Ret m_r_wholeAt [vR 19 0 48, vI (nI lo), vI (nI hi)] (some (vI (nI (vlN t a (tkB t e a - a))))) c (MRc nb db by_ rs) mj mk mj mk) ∨
    (tkK t e a = 3 ∧ ¬ (lo ≤ vlN t a (tkB t e a - a) ∧ vlN t a (tkB t e a - a) ≤ hi) ∧ Ret m_r_wholeAt [vR 19 0 48, vI (nI lo), vI (nI hi)] (some (vI (nI lo))) c (MRc nb db by_ rs) mj mk (u2 (u2 mj 48 38 (nI 2)) 48 35 (nI 0)) mk) ∨
    (tkK t e a ≠ 3 ∧ Ret m_r_wholeAt [vR 19 0 48, vI (nI lo), vI (nI hi)] (some (vI (nI lo))) c (MRc nb db by_ rs) mj mk (u2 (u2 mj 48 38 (nI 1)) 48 35 (nI 0)) mk) := by
  obtain ⟨ha, K, T, K', T', h38, h40⟩ := A
  have z38 : mj 48 38 ≤ 0 := by rw [h38]; decide
  have k4 := tkK_4 t e a
  by_cases h3 : tkK t e a = 3
  · have e3 : mj 48 35 = nI 3 := by rw [K'.1, h3]
    have e37 := K'.2.2.2.1 h3
    have bd := (tk_whole h3).2
    have l1 : mj 48 37 < nI lo ↔ vlN t a (tkB t e a - a) < lo := by rw [e37, nI_ltI (by omega) hlo]
    have l2 : nI hi < mj 48 37 ↔ hi < vlN t a (tkB t e a - a) := by rw [e37, nI_ltI hhi (by omega)]
    by_cases r1 : vlN t a (tkB t e a - a) < lo
    · exact Or.inr (Or.inl ⟨h3, by omega, g_r_wholeAt_0 ⟨fun _ => ⟨fun _ => ⟨fun z => absurd h38 z, fun _ => ⟨rfl, rfl, rfl⟩⟩, fun z => absurd (l1.mpr r1) z⟩, fun z => absurd e3 z⟩⟩)
    · by_cases r2 : hi < vlN t a (tkB t e a - a)
      · exact Or.inr (Or.inl ⟨h3, by omega, g_r_wholeAt_0 ⟨fun _ => ⟨fun z => absurd (l1.mp z) r1, fun _ => ⟨fun _ => ⟨fun z => absurd h38 z, fun _ => ⟨rfl, rfl, rfl⟩⟩, fun z => absurd (l2.mpr r2) z⟩⟩, fun z => absurd e3 z⟩⟩)
      · exact Or.inl ⟨h3, by omega, by omega, g_r_wholeAt_0 ⟨fun _ => ⟨fun z => absurd (l1.mp z) r1, fun _ => ⟨fun z => absurd (l2.mp z) r2, fun _ => ⟨fun _ => ⟨by rw [e37], rfl, rfl⟩, fun z => absurd z38 z⟩⟩⟩, fun z => absurd e3 z⟩⟩
  · have n3 : ¬ mj 48 35 = nI 3 := by rw [K'.1, nI_eq (by omega) (by decide)]; exact h3
    exact Or.inr (Or.inr ⟨h3, g_r_wholeAt_0 ⟨fun z => absurd z n3, fun _ => ⟨fun z => absurd h38 z, fun _ => ⟨rfl, rfl, rfl⟩⟩⟩⟩)
theorem AT.u9 (A : AT t e a mi mj mk) {k : Nat} (v : Int32) (hk : 8 < k) : AT t e a (u2 mi 4 k v) mj mk := by
  obtain ⟨ha, K, T, R⟩ := A
  have g : ∀ j, j ≤ 8 → (u2 mi 4 k v) 4 j = mi 4 j := fun j hj => u2_ne2 _ _ (Or.inr (by omega))
  exact ⟨ha, ⟨by rw [g 5 (by decide)]; exact K.1, by rw [g 6 (by decide)]; exact K.2.1, fun h => by rw [g 7 (by decide)]; exact K.2.2.1 h, fun h => by rw [g 8 (by decide)]; exact K.2.2.2 h⟩, ⟨by rw [g 4 (by decide)]; exact T.1, fun k hk => by rw [u2_o _ _ (by decide)]; exact T.2 k hk⟩, R.1, R.2.1, R.2.2.1, by rw [g 0 (by decide)]; exact R.2.2.2⟩
/-- a whole within bounds: the class -/
theorem C_whole_t (he : e ≤ 800) (ht : ∀ k, t k ≤ 255) {lo hi : Nat} (hlo : lo < 2 ^ 31) (hhi : hi < 2 ^ 31) (A : AT t e a mi mj mk) (h3 : tkK t e a = 3) (r1 : lo ≤ vlN t a (tkB t e a - a)) (r2 : vlN t a (tkB t e a - a) ≤ hi) :
    ∃ mi' mj' mk', Ret m_rd_takeWhole [vR 12 0 4, vI (nI lo), vI (nI hi)] (some (vI (nI 1))) c (MRc nb db (some (0, 800, 3)) rs) mi ml mi' ml ∧ Ret m_r_next [vR 19 0 48] none c (MRc nc dc (some (0, 800, 3)) rs) mj mk mj' mk' ∧ FSc mi mi' ∧ FTr mj mj' mk mk' ∧ mi' 4 9 = nI (vlN t a (tkB t e a - a)) ∧ AT t e (nxA t e a) mi' mj' mk' := by
  have bd := (tk_whole h3).2
  have e8 := A.2.1.2.2.2 h3
  obtain ⟨mi', mj', mk', c1, d1, A', c3, d3⟩ := J_next (nc := nc) (dc := dc) (nb := nb) (db := db) (rs := rs) (c := c) (ml := ml) he ht (A.u9 (mi 4 8) (k := 9) (by decide)) (by rw [h3]; decide)
  refine ⟨mi', mj', mk', g_rd_takeWhole_0 ⟨fun _ => ⟨fun z => absurd z (by rw [e8, nI_ltI (by omega) hlo]; omega), fun _ => ⟨fun _ => ⟨_, _, c1, rfl, rfl, rfl⟩, fun z => absurd (by rw [e8, nI_leI (by omega) hhi]; omega) z⟩⟩, fun z => absurd (by rw [A.2.1.1, h3]; rfl) z⟩, d1, (FSc.u _ (by decide)).tr c3.s, d3, by rw [c3.2 9 (by omega), u2_s, e8], A'⟩
theorem C_whole_f {lo hi : Nat} (hlo : lo < 2 ^ 31) (hhi : hi < 2 ^ 31) (A : AT t e a mi mj mk) (h3 : tkK t e a = 3) (r : ¬ (lo ≤ vlN t a (tkB t e a - a) ∧ vlN t a (tkB t e a - a) ≤ hi)) :
    Ret m_rd_takeWhole [vR 12 0 4, vI (nI lo), vI (nI hi)] (some (vI (nI 0))) c (MRc nb db (some (0, 800, 3)) rs) mi ml (u2 (u2 mi 4 0 (nI 2)) 4 1 (mi 4 6)) ml := by
  have bd := (tk_whole h3).2
  have e8 := A.2.1.2.2.2 h3
  by_cases r1 : vlN t a (tkB t e a - a) < lo
  · exact g_rd_takeWhole_0 ⟨fun _ => ⟨fun _ => ⟨rfl, rfl, rfl⟩, fun z => absurd (by rw [e8, nI_ltI (by omega) hlo]; exact r1) z⟩, fun z => absurd (by rw [A.2.1.1, h3]; rfl) z⟩
  · exact g_rd_takeWhole_0 ⟨fun _ => ⟨fun z => absurd z (by rw [e8, nI_ltI (by omega) hlo]; exact r1), fun _ => ⟨fun z => absurd z (by rw [e8, nI_leI (by omega) hhi]; omega), fun _ => ⟨rfl, rfl, rfl⟩⟩⟩, fun z => absurd (by rw [A.2.1.1, h3]; rfl) z⟩
theorem AT.n3 (A : AT t e a mi mj mk) (h3 : tkK t e a ≠ 3) : ¬ mi 4 5 = nI 2 := fun z => absurd ((csK_i (tkK_4 t e a) (by decide) (by decide)).mp (by rw [← A.2.1.1]; exact z)) h3
theorem C_whole_n (A : AT t e a mi mj mk) (h3 : tkK t e a ≠ 3) (x y : Int32) :
    Ret m_rd_takeWhole [vR 12 0 4, vI x, vI y] (some (vI (nI 0))) c (MRc nb db (some (0, 800, 3)) rs) mi ml (u2 (u2 mi 4 0 (nI 1)) 4 1 (mi 4 6)) ml :=
  g_rd_takeWhole_0 ⟨fun z => absurd z (A.n3 h3), fun _ => ⟨rfl, rfl, rfl⟩⟩
theorem J_whole (he : e ≤ 800) (ht : ∀ k, t k ≤ 255) {lo hi : Nat} (hlo : lo < 2 ^ 31) (hhi : hi < 2 ^ 31) (A : AT t e a mi mj mk) :
    ∃ r v mi' mj' mk', Ret m_rd_takeWhole [vR 12 0 4, vI (nI lo), vI (nI hi)] (some (vI r)) c (MRc nb db (some (0, 800, 3)) rs) mi ml mi' ml ∧ Ret m_r_readWhole [vR 19 0 48, vI (nI lo), vI (nI hi)] (some (vI v)) c (MRc nc dc (some (0, 800, 3)) rs) mj mk mj' mk' ∧ FSc mi mi' ∧ FSr mj mj' mk mk' ∧ ((r = nI 1 ∧ a < e ∧ (∃ n : Nat, lo ≤ n ∧ n ≤ hi ∧ v = nI n ∧ mi' 4 9 = nI n) ∧ AT t e (nxA t e a) mi' mj' mk') ∨ (r = nI 0 ∧ ∃ f, DD f a mi' mj')) := by
  rcases R_wholeAt (nb := nc) (db := dc) (by_ := some (0, 800, 3)) (rs := rs) (c := c) hlo hhi A with ⟨h3, r1, r2, W⟩ | ⟨h3, r, W⟩ | ⟨h3, W⟩
  · obtain ⟨mi', mj', mk', c1, d1, f1, f2, e9, A'⟩ := C_whole_t (nc := nc) (dc := dc) (nb := nb) (db := db) (rs := rs) (c := c) (ml := ml) he ht hlo hhi A h3 r1 r2
    exact ⟨_, _, mi', mj', mk', c1, g_r_readWhole_0 ⟨_, _, _, W, _, _, d1, rfl, rfl, rfl⟩, f1, f2.s, Or.inl ⟨rfl, (tk_whole h3).1, ⟨_, r1, r2, rfl, e9⟩, A'⟩⟩
  · exact ⟨_, _, _, _, mk, C_whole_f hlo hhi A h3 r, g_r_readWhole_0 ⟨_, _, _, W, _, _, D_next (DR.mk0 (by decide) (by decide)), rfl, rfl, rfl⟩, FSc.fl, FSr.fl, Or.inr ⟨rfl, 2, DD.at A (by decide) (by decide)⟩⟩
  · exact ⟨_, _, _, _, mk, C_whole_n A h3 _ _, g_r_readWhole_0 ⟨_, _, _, W, _, _, D_next (DR.mk0 (by decide) (by decide)), rfl, rfl, rfl⟩, FSc.fl, FSr.fl, Or.inr ⟨rfl, 1, DD.at A (by decide) (by decide)⟩⟩
/-- a colour or a plate that is new -/
theorem J_new (hb : nb = 43 ∧ db = 5 ∨ nb = 5 ∧ db = 43) (he : e ≤ 800) (ht : ∀ k, t k ≤ 255) {N B : Nat} (hN : 0 < N) (hN31 : N ≤ 31) (hB : B < 2 ^ 31) (A : AT t e a mi mj mk) (hc : mi db 0 = nI N) (hr : mj 48 13 = nI N) (hx : x = nI B) :
    ∃ r v mi' mj' mk', Ret m_rd_takeNew [vR 12 0 4, vI x] (some (vI r)) c (MRc nb db (some (0, 800, 3)) rs) mi ml mi' ml ∧ Ret m_r_readNew [vR 19 0 48, vI x] (some (vI v)) c (MRc nc dc (some (0, 800, 3)) rs) mj mk mj' mk' ∧ FSc mi mi' ∧ FSr mj mj' mk mk' ∧ ((r = nI 1 ∧ a < e ∧ (∃ n : Nat, n < N ∧ bt B n = 0 ∧ v = nI n ∧ mi' 4 9 = nI n) ∧ AT t e (nxA t e a) mi' mj' mk') ∨ (r = nI 0 ∧ ∃ f, DD f a mi' mj')) := by
  have ec : mi db 0 - nI 1 = nI (N - 1) := by rw [hc, nI_sub hN]
  have er : mj 48 13 - nI 1 = nI (N - 1) := by rw [hr, nI_sub hN]
  rcases R_wholeAt (nb := nc) (db := dc) (by_ := some (0, 800, 3)) (rs := rs) (c := c) (lo := 0) (hi := N - 1) (by decide) (by omega) A with ⟨h3, r1, r2, W⟩ | ⟨h3, r, W⟩ | ⟨h3, W⟩
  · have bd := (tk_whole h3).2
    have e8 := A.2.1.2.2.2 h3
    have y5 : mi 4 5 = nI 2 := by rw [A.2.1.1, h3]; rfl
    have n0 : ¬ mi 4 8 < 0 := by rw [e8, show (0 : Int32) = nI 0 from rfl, nI_ltI (by omega) (by decide)]; omega
    have nN : ¬ mi db 0 ≤ mi 4 8 := by rw [e8, hc, nI_leI (by omega) (by omega)]; omega
    have bi : (x >>> (mi 4 8 &&& 31)) &&& nI 1 = nI (bt B (vlN t a (tkB t e a - a))) := bit_i hx e8 hB (by omega)
    have hh := R_has (nb := nc) (db := dc) (by_ := some (0, 800, 3)) (rs := rs) (c := c) (mi := mj) (ml := mk) hx (rfl : nI (vlN t a (tkB t e a - a)) = nI (vlN t a (tkB t e a - a))) hB (by omega)
    rw [← er] at W
    have h38 := A.2.2.2.2.2.1
    by_cases b1 : bt B (vlN t a (tkB t e a - a)) = 1
    · rw [b1] at bi hh
      exact ⟨_, _, _, _, mk, g_rd_takeNew_0 hb ⟨fun z => absurd y5 z, fun _ => ⟨fun z => absurd z n0, fun _ => ⟨fun z => absurd z nN, fun _ => ⟨fun z => absurd bi z, fun _ => ⟨rfl, rfl, rfl⟩⟩⟩⟩⟩, g_r_readNew_0 ⟨_, _, _, W, fun z => absurd h38 z, fun _ => ⟨_, hh, fun z => absurd z (by decide), fun _ => ⟨fun z => absurd h38 z, fun _ => ⟨_, _, D_next (DR.mk0 (f := 3) (by decide) (by decide)), fun z => absurd z (DR.mk0 (f := 3) (by decide) (by decide)).np, fun _ => ⟨rfl, rfl, rfl⟩⟩⟩⟩⟩, FSc.fl, FSr.fl, Or.inr ⟨rfl, 3, DD.at A (by decide) (by decide)⟩⟩
    · have b0 : bt B (vlN t a (tkB t e a - a)) = 0 := by unfold bt at b1 ⊢; omega
      rw [b0] at bi hh
      obtain ⟨mi', mj', mk', c1, d1, f1, f2, e9, A'⟩ := C_whole_t (nc := nc) (dc := dc) (nb := nb) (db := db) (rs := rs) (c := c) (ml := ml) he ht (lo := 0) (hi := N - 1) (by decide) (by omega) A h3 r1 r2
      rw [← ec] at c1
      have h38' : mj' 48 38 ≤ 0 := by rw [f2.2.1 38 (by omega), h38]; decide
      exact ⟨nI 1, _, mi', mj', mk', g_rd_takeNew_0 hb ⟨fun z => absurd y5 z, fun _ => ⟨fun z => absurd z n0, fun _ => ⟨fun z => absurd z nN, fun _ => ⟨fun _ => ⟨_, _, _, c1, Or.inr rfl, rfl, rfl, rfl⟩, fun z => absurd (by rw [bi] at z; exact z) (by decide)⟩⟩⟩⟩, g_r_readNew_0 ⟨_, _, _, W, fun z => absurd h38 z, fun _ => ⟨_, hh, fun _ => ⟨_, _, d1, fun _ => ⟨rfl, rfl, rfl⟩, fun z => absurd h38' z⟩, fun z => absurd rfl z⟩⟩, f1, f2.s, Or.inl ⟨rfl, (tk_whole h3).1, ⟨_, by omega, b0, rfl, e9⟩, A'⟩⟩
  · have bd := (tk_whole h3).2
    have e8 := A.2.1.2.2.2 h3
    have y5 : mi 4 5 = nI 2 := by rw [A.2.1.1, h3]; rfl
    have n0 : ¬ mi 4 8 < 0 := by rw [e8, show (0 : Int32) = nI 0 from rfl, nI_ltI (by omega) (by decide)]; omega
    have yN : mi db 0 ≤ mi 4 8 := by rw [e8, hc, nI_leI (by omega) (by omega)]; omega
    have CF := C_whole_f (nb := nb) (db := db) (rs := rs) (c := c) (ml := ml) (lo := 0) (hi := N - 1) (by decide) (by omega) A h3 r
    rw [← ec] at CF
    rw [← er] at W
    exact ⟨nI 0, _, _, _, mk, g_rd_takeNew_0 hb ⟨fun z => absurd y5 z, fun _ => ⟨fun z => absurd z n0, fun _ => ⟨fun _ => ⟨_, _, _, CF, Or.inl rfl, rfl, rfl, rfl⟩, fun z => absurd yN z⟩⟩⟩, g_r_readNew_0 ⟨_, _, _, W, fun _ => ⟨_, _, D_next (DR.mk0 (f := 2) (by decide) (by decide)), fun z => absurd z (DR.mk0 (f := 2) (by decide) (by decide)).np, fun _ => ⟨rfl, rfl, rfl⟩⟩, fun z => absurd z (DR.mk0 (f := 2) (by decide) (by decide)).nz⟩, FSc.fl, FSr.fl, Or.inr ⟨rfl, 2, DD.at A (by decide) (by decide)⟩⟩
  · rw [← er] at W
    exact ⟨nI 0, _, _, _, mk, g_rd_takeNew_0 hb ⟨fun _ => ⟨_, _, _, C_whole_n A h3 _ _, Or.inl rfl, rfl, rfl, rfl⟩, fun z => absurd z (A.n3 h3)⟩, g_r_readNew_0 ⟨_, _, _, W, fun _ => ⟨_, _, D_next (DR.mk0 (f := 1) (by decide) (by decide)), fun z => absurd z (DR.mk0 (f := 1) (by decide) (by decide)).np, fun _ => ⟨rfl, rfl, rfl⟩⟩, fun z => absurd z (DR.mk0 (f := 1) (by decide) (by decide)).nz⟩, FSc.fl, FSr.fl, Or.inr ⟨rfl, 1, DD.at A (by decide) (by decide)⟩⟩
end
