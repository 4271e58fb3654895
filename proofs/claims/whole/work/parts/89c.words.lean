/-! ===== the next token, words ===== -/
def wd (w i : Nat) : Nat := (((strB.getD w []).getD i 0) &&& nI 255).toBitVec.toNat % 65536
theorem wd_e (w i : Nat) : ((((strB.getD w []).getD i 0) &&& nI 255).toUInt32 % 65536).toInt32 = nI (wd w i) := pk_char _
theorem wd_r : ∀ w, w < 15 → 0 < w → strN.getD w 0 ≤ 7 ∧ ∀ i, i < strN.getD w 0 → 97 ≤ wd w i ∧ wd w i ≤ 122 := by decide
theorem sr0 (w : Nat) (h : strN.getD w 0 ≤ 7) : nI (strN.getD w 0) >>> (nI 0 &&& 31) = nI (strN.getD w 0) := by
  rw [pk_shrN (by omega) _ 0 (by decide), Nat.pow_zero, Nat.div_one]
/-- the token that begins at a is the word w -/
def isW (t : Nat → Nat) (e a w : Nat) : Prop := tkK t e a = 2 ∧ tkB t e a - a = strN.getD w 0 ∧ ∀ i, i < strN.getD w 0 → t (a + i) = wd w i
theorem tkK_4 (t : Nat → Nat) (e a : Nat) : tkK t e a ≤ 4 := by
  unfold tkK
  split
  · decide
  · split
    · split <;> decide
    · split
      · split <;> decide
      · split <;> decide
theorem tkB_in {t : Nat → Nat} {e a : Nat} (ha : a ≤ e) : a ≤ tkB t e a ∧ tkB t e a ≤ e := by
  have b1 := tto_in (g := gLt t) ha
  have b2 := tto_in (g := gDg t) ha
  unfold tkB
  split
  · omega
  · split
    · omega
    · split
      · omega
      · omega
theorem tkB_lt {t : Nat → Nat} {e a : Nat} (ha : a < e) : a < tkB t e a := by
  unfold tkB
  rw [if_neg (by omega)]
  split
  · rename_i g; rw [tto_go ha g]; have := tto_in (g := gLt t) (show a + 1 ≤ e by omega); omega
  · split
    · rename_i g; rw [tto_go ha g]; have := tto_in (g := gDg t) (show a + 1 ≤ e by omega); omega
    · omega
theorem tkK_e {t : Nat → Nat} {e a : Nat} (h : tkK t e a ≠ 1) : a < e := by
  rcases Nat.lt_or_ge a e with z | z
  · exact z
  · exact absurd (by unfold tkK; rw [if_pos z]) h
theorem tkA_in {t : Nat → Nat} {e p : Nat} (h : p ≤ e) : p ≤ tkA t e p ∧ tkA t e p ≤ e := tto_in h
theorem tk_word {t : Nat → Nat} {e a : Nat} (h : tkK t e a = 2) : a < e ∧ tkB t e a = tto (gLt t) e a ∧ tkB t e a - a ≤ 7 := by
  have hae := tkK_e (t := t) (e := e) (a := a) (by omega)
  unfold tkK at h
  rw [if_neg (by omega)] at h
  by_cases g : gLt t a = true
  · rw [if_pos g] at h
    have eB : tkB t e a = tto (gLt t) e a := by unfold tkB; rw [if_neg (by omega), if_pos g]
    refine ⟨hae, eB, ?_⟩
    rw [eB]
    by_cases l : tto (gLt t) e a - a ≤ 7
    · exact l
    · rw [if_neg l] at h; exact absurd h (by decide)
  · rw [if_neg g] at h
    split at h
    · split at h <;> exact absurd h (by decide)
    · split at h <;> exact absurd h (by decide)
theorem csK_i {κ j : Nat} (h : κ ≤ 4) (hj : 0 < j) (hj4 : j ≤ 4) : nI (csK κ) = nI (j - 1) ↔ κ = j := by
  unfold csK
  by_cases h0 : κ = 0
  · rw [if_pos h0, nI_eq (by decide) (by omega)]; omega
  · rw [if_neg h0, nI_eq (by omega) (by omega)]; omega
section
variable {nb db : Nat} {by_ rs : RX} {c : Nat} {mi mj : MI} {ml mk : ML} {t : Nat → Nat} {e p a w : Nat} {x y z : Int32}
theorem R_tokr (T : TM t e mj) (he : e ≤ 800) (ht : ∀ k, t k ≤ 255) (h34 : mj 48 34 = nI a) (ha : a ≤ e) (hbl : a < e → t a ≠ 32) :
    ∃ m' l', Go m_r_next 8 [some (vR 19 0 48), none] [] none c (MRc nb db by_ rs) mj mk m' l' ∧ KR t e a m' l' ∧ FTr mj m' mk l' := by
  by_cases hae : a < e
  · have n1 : ¬ mj 48 33 ≤ mj 48 34 := by rw [T.1, h34, nI_leI (by omega) (by omega)]; omega
    have hv : vp_in (mj 48 34) 800 := ixn h34 (by omega) (by decide)
    have ev : mj 57 (mj 48 34).toNatClampNeg &&& nI 255 = nI (t a) := by rw [cln h34 (by omega)]; exact T.2 a hae
    have hta := ht a
    have n32 : ¬ mj 57 (mj 48 34).toNatClampNeg &&& nI 255 = nI 32 := by rw [ev, nI_eq (by omega) (by decide)]; exact hbl hae
    have nm1 : ¬ mj 57 (mj 48 34).toNatClampNeg &&& nI 255 = -(nI 1) := by rw [ev]; exact nI_m1 (by omega)
    have F0 : FTr mj (u2 mj 48 36 (mj 48 34)) mk mk := FTr.u _ (by decide)
    have q34 : (u2 mj 48 36 (mj 48 34)) 48 34 = nI a := by rw [u2_ne2 _ _ (Or.inr (by decide)), h34]
    have q36 : (u2 mj 48 36 (mj 48 34)) 48 36 = nI a := by rw [u2_s, h34]
    have go : ∀ m' l', _ → Go m_r_next 8 [some (vR 19 0 48), none] [] none c (MRc nb db by_ rs) mj mk m' l' := fun m' l' h => g_r_next_8 ⟨fun z => absurd z n1, fun _ => ⟨hv, fun _ => ⟨fun z => absurd z n1, fun _ => ⟨hv, fun _ => h, fun z => absurd z nm1⟩⟩, fun z => absurd z n32⟩⟩
    have l97 : mj 57 (mj 48 34).toNatClampNeg &&& nI 255 < nI 97 ↔ t a < 97 := by rw [ev, nI_ltI (by omega) (by decide)]
    have l48 : mj 57 (mj 48 34).toNatClampNeg &&& nI 255 < nI 48 ↔ t a < 48 := by rw [ev, nI_ltI (by omega) (by decide)]
    have l122 : nI 122 < mj 57 (mj 48 34).toNatClampNeg &&& nI 255 ↔ 122 < t a := by rw [ev, nI_ltI (by decide) (by omega)]
    have l57 : nI 57 < mj 57 (mj 48 34).toNatClampNeg &&& nI 255 ↔ 57 < t a := by rw [ev, nI_ltI (by decide) (by omega)]
    by_cases g1 : gLt t a = true
    · obtain ⟨u1, v1⟩ := (gLt_i t a).mp g1
      obtain ⟨m', l', k1, k2, k3, k4, k5, k6⟩ := R_nextWord (nb := nb) (db := db) (by_ := by_) (rs := rs) (c := c) (mk := mk) (T.fr F0) he ht q34 q36 ha
      have eB : tkB t e a = tto (gLt t) e a := by unfold tkB; rw [if_neg (by omega), if_pos g1]
      have eK : tkK t e a = if tto (gLt t) e a - a ≤ 7 then 2 else 0 := by unfold tkK; rw [if_neg (by omega), if_pos g1]
      refine ⟨m', l', go _ _ ⟨fun z => absurd (l97.mp z) (by omega), fun _ => ⟨fun z => absurd (l122.mp z) (by omega), fun _ => ⟨_, _, k1, rfl, rfl, rfl⟩⟩⟩, ⟨by rw [k2, eK], k4, fun _ => by rw [k3, eB], fun z => ?_, fun z => ?_⟩, F0.tr k6⟩
      · rw [eK] at z; split at z <;> exact absurd z (by decide)
      · have l7 := (tk_word z).2.2
        rw [k5, eB, Nat.min_eq_left (by rw [← eB]; exact l7)]
    · by_cases g2 : gDg t a = true
      · obtain ⟨u1, v1⟩ := (gDg_i t a).mp g2
        obtain ⟨m', k1, k2, k3, k4, k5, k6⟩ := R_nextWhole (nb := nb) (db := db) (by_ := by_) (rs := rs) (c := c) (mk := mk) (T.fr F0) he ht q34 q36 ha
        have eB : tkB t e a = tto (gDg t) e a := by unfold tkB; rw [if_neg (by omega), if_neg g1, if_pos g2]
        have eK : tkK t e a = if tto (gDg t) e a - a ≤ 6 then 3 else 0 := by unfold tkK; rw [if_neg (by omega), if_neg g1, if_pos g2]
        refine ⟨m', mk, go _ _ ⟨fun _ => ⟨fun z => absurd (l48.mp z) (by omega), fun _ => ⟨fun z => absurd (l57.mp z) (by omega), fun _ => ⟨_, _, k1, rfl, rfl, rfl⟩⟩⟩, fun z => absurd (l97.mpr (by omega)) z⟩, ⟨by rw [k2, eK], k4, fun _ => by rw [k3, eB], fun z => ?_, fun z => ?_⟩, F0.tr k6⟩
        · rw [k5, eB]
          rw [eK] at z
          by_cases l : tto (gDg t) e a - a ≤ 6
          · rw [Nat.min_eq_left l]
          · rw [if_neg l] at z; exact absurd z (by decide)
        · rw [eK] at z; split at z <;> exact absurd z (by decide)
      · have nl : ¬ (97 ≤ t a ∧ t a ≤ 122) := fun z => g1 ((gLt_i t a).mpr z)
        have nd : ¬ (48 ≤ t a ∧ t a ≤ 57) := fun z => g2 ((gDg_i t a).mpr z)
        have eB : tkB t e a = a + 1 := by unfold tkB; rw [if_neg (by omega), if_neg g1, if_neg g2]
        have sg : ∀ m', Ret m_r_nextSign [vR 19 0 48, vI (mj 57 (mj 48 34).toNatClampNeg &&& nI 255)] none c (MRc nb db by_ rs) (u2 mj 48 36 (mj 48 34)) mk m' mk → Go m_r_next 8 [some (vR 19 0 48), none] [] none c (MRc nb db by_ rs) mj mk m' mk := fun m' S => by
          have L : ∃ (mi1 : MI) (ml1 : ML), Ret m_r_nextSign [(vR 19 0 48), (vI ((mj 57 (mj 48 34).toNatClampNeg) &&& (nI 255)))] none c (MRc nb db by_ rs) (u2 mj 48 36 (mj 48 34)) mk mi1 ml1 ∧ (Fin none mi1 ml1 none m' mk) := ⟨_, _, S, rfl, rfl, rfl⟩
          exact go _ _ ⟨fun _ => ⟨fun _ => L, fun z => ⟨fun _ => L, fun z2 => absurd ⟨Nat.le_of_not_lt (fun h => z (l48.mpr h)), Nat.le_of_not_lt (fun h => z2 (l57.mpr h))⟩ nd⟩⟩, fun z => ⟨fun _ => ⟨fun _ => L, fun z1 => ⟨fun _ => L, fun z2 => absurd ⟨Nat.le_of_not_lt (fun h => z1 (l48.mpr h)), Nat.le_of_not_lt (fun h => z2 (l57.mpr h))⟩ nd⟩⟩, fun z2 => absurd ⟨Nat.le_of_not_lt (fun h => z (l97.mpr h)), Nat.le_of_not_lt (fun h => z2 (l122.mpr h))⟩ nl⟩⟩
        by_cases g3 : t a = 59
        · have eK : tkK t e a = 4 := by unfold tkK; rw [if_neg (by omega), if_neg g1, if_neg g2, if_pos g3]
          have y3 : mj 57 (mj 48 34).toNatClampNeg &&& nI 255 = nI 59 := by rw [ev, g3]
          refine ⟨u2 (u2 (u2 mj 48 36 (mj 48 34)) 48 35 (nI 4)) 48 34 ((u2 mj 48 36 (mj 48 34)) 48 34 + nI 1), mk, sg _ (g_r_nextSign_0 ⟨fun z => absurd y3 z, fun _ => ⟨fun z => absurd y3 z, fun _ => ⟨rfl, rfl, rfl⟩⟩⟩), ⟨?_, ?_, fun _ => ?_, fun z => ?_, fun z => ?_⟩, (F0.tr (FTr.u _ (by decide))).tr (FTr.u _ (by decide))⟩
          · rw [eK, u2_ne2 _ _ (Or.inr (by decide)), u2_s]
          · rw [u2_ne2 _ _ (Or.inr (by decide)), u2_ne2 _ _ (Or.inr (by decide)), q36]
          · rw [u2_s, inc q34, eB]
          · rw [eK] at z; exact absurd z (by decide)
          · rw [eK] at z; exact absurd z (by decide)
        · have eK : tkK t e a = 0 := by unfold tkK; rw [if_neg (by omega), if_neg g1, if_neg g2, if_neg g3]
          have n3 : ¬ mj 57 (mj 48 34).toNatClampNeg &&& nI 255 = nI 59 := by rw [ev, nI_eq (by omega) (by decide)]; exact g3
          refine ⟨u2 (u2 mj 48 36 (mj 48 34)) 48 35 (nI 0), mk, sg _ (g_r_nextSign_0 ⟨fun _ => ⟨fun _ => ⟨rfl, rfl, rfl⟩, fun z => absurd z n3⟩, fun z => absurd z n3⟩), ⟨?_, ?_, fun z => absurd eK z, fun z => ?_, fun z => ?_⟩, F0.tr (FTr.u _ (by decide))⟩
          · rw [eK, u2_s]
          · rw [u2_ne2 _ _ (Or.inr (by decide)), q36]
          · rw [eK] at z; exact absurd z (by decide)
          · rw [eK] at z; exact absurd z (by decide)
  · have y1 : mj 48 33 ≤ mj 48 34 := by rw [T.1, h34, nI_leI (by omega) (by omega)]; omega
    have eK : tkK t e a = 1 := by unfold tkK; rw [if_pos (by omega)]
    have eB : tkB t e a = e := by unfold tkB; rw [if_pos (by omega)]
    refine ⟨u2 (u2 mj 48 36 (mj 48 34)) 48 35 (nI 1), mk, g_r_next_8 ⟨fun _ => ⟨fun _ => ⟨rfl, rfl, rfl⟩, fun z => absurd y1 z⟩, fun z => absurd y1 z⟩, ⟨?_, ?_, fun _ => ?_, fun z => ?_, fun z => ?_⟩, (FTr.u _ (by decide)).tr (FTr.u _ (by decide))⟩
    · rw [eK, u2_s]
    · rw [u2_ne2 _ _ (Or.inr (by decide)), u2_s, h34]
    · rw [u2_ne2 _ _ (Or.inr (by decide)), u2_ne2 _ _ (Or.inr (by decide)), h34, eB]; congr 1; omega
    · rw [eK] at z; exact absurd z (by decide)
    · rw [eK] at z; exact absurd z (by decide)
theorem R_rnext (T : TM t e mj) (he : e ≤ 800) (ht : ∀ k, t k ≤ 255) (h38 : mj 48 38 = nI 0) (h34 : mj 48 34 = nI p) (hp : p ≤ e) :
    ∃ m' l', Ret m_r_next [vR 19 0 48] none c (MRc nb db by_ rs) mj mk m' l' ∧ KR t e (tkA t e p) m' l' ∧ FTr mj m' mk l' := by
  have go : ∀ n q, e - q = n → q ≤ e → ∀ m : MI, TM t e m → m 48 34 = nI q → ∃ m' l', Go m_r_next 8 [some (vR 19 0 48), none] [] none c (MRc nb db by_ rs) m mk m' l' ∧ KR t e (tto (gBl t) e q) m' l' ∧ FTr m m' mk l' := by
    intro n
    induction n with
    | zero =>
      intro q hn hq m Tm h6
      rw [tto_end (show e ≤ q by omega)]
      exact R_tokr Tm he ht h6 hq (fun h => absurd h (by omega))
    | succ n ih =>
      intro q hn hq m Tm h6
      have hqe : q < e := by omega
      by_cases g : gBl t q = true
      · rw [tto_go hqe g]
        have F1 : FTr m (u2 m 48 34 (m 48 34 + nI 1)) mk mk := FTr.u _ (by decide)
        obtain ⟨m', l', h1, h2, h3⟩ := ih (q + 1) (by omega) (by omega) (u2 m 48 34 (m 48 34 + nI 1)) (Tm.fr F1) (by rw [u2_s, inc h6])
        have n1 : ¬ m 48 33 ≤ m 48 34 := by rw [Tm.1, h6, nI_leI (by omega) (by omega)]; omega
        have e32 : m 57 (m 48 34).toNatClampNeg &&& nI 255 = nI 32 := by rw [cln h6 (by omega), Tm.2 q hqe, (gBl_i t q).mp g]
        exact ⟨m', l', g_r_next_8 ⟨fun z => absurd z n1, fun _ => ⟨ixn h6 (by omega) (by decide), fun z => absurd e32 z, fun _ => h1⟩⟩, h2, F1.tr h3⟩
      · rw [tto_no g]
        exact R_tokr Tm he ht h6 hq (fun _ z => g ((gBl_i t q).mpr z))
  obtain ⟨m', l', h1, h2, h3⟩ := go (e - p) p rfl hp mj T h34
  exact ⟨m', l', g_r_next_0 ⟨fun _ => h1, fun z => absurd (by rw [h38]; decide) z⟩, h2, h3⟩
/-! words -/
theorem W_c_t (K : KC t e a mi) (T : TC t e mi) (he : e ≤ 800) (hw : w < 15) (h0 : 0 < w) (h : isW t e a w) : Ret m_rd_isWord [vR 12 0 4, vR 100 0 w] (some (vI (nI 1))) c (MRc nb db (some (0, 800, 3)) rs) mi ml mi ml := by
  obtain ⟨k1, k2, k3⟩ := h
  obtain ⟨w7, wr⟩ := wd_r w hw h0
  have hae := (tk_word k1).1
  have hB := tkB_in (t := t) (show a ≤ e by omega)
  have e5 : mi 4 5 = nI 1 := by rw [K.1, k1]; rfl
  have e7 : mi 4 7 - mi 4 6 = nI (strN.getD w 0) := by rw [K.2.2.1 (by omega), K.2.1, nI_sub hB.1, k2]
  refine g_rd_isWord_0 ⟨fun z => absurd e5 z, fun _ => ⟨fun _ => ?_, fun z => absurd (by rw [e7, sr0 w w7]) z⟩⟩
  have go : ∀ j, j ≤ strN.getD w 0 → ∀ x : Int32, x = nI j → Go m_rd_isWord 28 [some (vR 12 0 4), some (vR 100 0 w), some (vI x)] [] (some (vI (nI 1))) c (MRc nb db (some (0, 800, 3)) rs) mi ml mi ml := by
    refine upto (fun x hx => ?_) (fun j hj ih x hx => ?_)
    · exact g_rd_isWord_28 ⟨fun _ => ⟨rfl, rfl, rfl⟩, fun z => absurd (by rw [sr0 w w7, hx, nI_leI (by omega) (by omega)]; exact Nat.le_refl _) z⟩
    · have e6 : mi 4 6 + x = nI (a + j) := by rw [K.2.1, hx, nI_add]
      have cx : x.toNatClampNeg = j := cln hx (by omega)
      refine g_rd_isWord_28 ⟨fun z => absurd z (by rw [sr0 w w7, hx, nI_leI (by omega) (by omega)]; omega), fun _ => ⟨fun z => absurd z (by rw [T.1, e6, nI_leI (by omega) (by omega)]; omega), fun _ => ⟨ixn e6 (by omega) (by decide), fun z => absurd z (by rw [hx, show (0 : Int32) = nI 0 from rfl, nI_ltI (by omega) (by decide)]; omega), fun _ => ⟨fun _ => ⟨ixn hx hj (by omega), fun _ => ih _ (inc hx), fun z => absurd ?_ z⟩, fun z => absurd (by rw [hx, nI_ltI (by omega) (by omega)]; exact hj) z⟩⟩⟩⟩
      rw [cln e6 (by omega), T.2 _ (by omega), cx, wd_e, k3 j hj]
  exact go 0 (Nat.zero_le _) _ rfl
theorem W_c_f (K : KC t e a mi) (T : TC t e mi) (he : e ≤ 800) (ht : ∀ k, t k ≤ 255) (hw : w < 15) (h0 : 0 < w) (h : ¬ isW t e a w) : Ret m_rd_isWord [vR 12 0 4, vR 100 0 w] (some (vI (nI 0))) c (MRc nb db (some (0, 800, 3)) rs) mi ml mi ml := by
  obtain ⟨w7, wr⟩ := wd_r w hw h0
  by_cases k1 : tkK t e a = 2
  · have hae := (tk_word k1).1
    have hB := tkB_in (t := t) (show a ≤ e by omega)
    have e5 : mi 4 5 = nI 1 := by rw [K.1, k1]; rfl
    have e7 : mi 4 7 - mi 4 6 = nI (tkB t e a - a) := by rw [K.2.2.1 (by omega), K.2.1, nI_sub hB.1]
    by_cases k2 : tkB t e a - a = strN.getD w 0
    · refine g_rd_isWord_0 ⟨fun z => absurd e5 z, fun _ => ⟨fun _ => ?_, fun z => absurd (by rw [e7, sr0 w w7, k2]) z⟩⟩
      have go : ∀ n j, strN.getD w 0 - j = n → j ≤ strN.getD w 0 → (∀ i, i < j → t (a + i) = wd w i) → ∀ x : Int32, x = nI j → Go m_rd_isWord 28 [some (vR 12 0 4), some (vR 100 0 w), some (vI x)] [] (some (vI (nI 0))) c (MRc nb db (some (0, 800, 3)) rs) mi ml mi ml := by
        intro n
        induction n with
        | zero =>
          intro j hn hj hi x hx
          exact absurd ⟨k1, k2, fun i hi2 => hi i (by omega)⟩ h
        | succ n ih =>
          intro j hn hj hi x hx
          have hjl : j < strN.getD w 0 := by omega
          have e6 : mi 4 6 + x = nI (a + j) := by rw [K.2.1, hx, nI_add]
          have cx : x.toNatClampNeg = j := cln hx (by omega)
          have wj := wr j hjl
          have tj := ht (a + j)
          have ev : mi 3 (mi 4 6 + x).toNatClampNeg = nI (t (a + j)) := by rw [cln e6 (by omega), T.2 _ (by omega)]
          refine g_rd_isWord_28 ⟨fun z => absurd z (by rw [sr0 w w7, hx, nI_leI (by omega) (by omega)]; omega), fun _ => ⟨fun z => absurd z (by rw [T.1, e6, nI_leI (by omega) (by omega)]; omega), fun _ => ⟨ixn e6 (by omega) (by decide), fun z => absurd z (by rw [hx, show (0 : Int32) = nI 0 from rfl, nI_ltI (by omega) (by decide)]; omega), fun _ => ⟨fun _ => ⟨ixn hx hjl (by omega), fun z => ?_, fun _ => ⟨rfl, rfl, rfl⟩⟩, fun z => absurd (by rw [hx, nI_ltI (by omega) (by omega)]; exact hjl) z⟩⟩⟩⟩
          rw [ev, cx, wd_e, nI_eq (by omega) (by omega)] at z
          refine ih (j + 1) (by omega) (by omega) (fun i hi2 => ?_) _ (inc hx)
          by_cases ei : i = j
          · rw [ei]; exact z
          · exact hi i (by omega)
      exact go _ 0 rfl (Nat.zero_le _) (fun i hi => absurd hi (by omega)) _ rfl
    · exact g_rd_isWord_0 ⟨fun _ => ⟨rfl, rfl, rfl⟩, fun _ => ⟨fun z => absurd (by rw [e7, sr0 w w7, nI_eq (by omega) (by omega)] at z; exact z) k2, fun _ => ⟨rfl, rfl, rfl⟩⟩⟩
  · exact g_rd_isWord_0 ⟨fun _ => ⟨rfl, rfl, rfl⟩, fun z => absurd ((csK_i (tkK_4 t e a) (by decide) (by decide)).mp (by rw [← K.1]; exact z)) k1⟩
theorem W_r_go (hw : w < 15) (h0 : 0 < w) (r : Int32) (h : (¬ mj 48 35 = nI 2 → r = nI 0) ∧ (mj 48 35 = nI 2 → (¬ mk 48 39 = lN (wvN (wd w) 0 (strN.getD w 0)) → r = nI 0) ∧ (mk 48 39 = lN (wvN (wd w) 0 (strN.getD w 0)) → r = nI 1))) : Ret m_r_isWord [vR 19 0 48, vR 100 0 w] (some (vI r)) c (MRc nb db by_ rs) mj mk mj mk := by
  obtain ⟨w7, wr⟩ := wd_r w hw h0
  refine g_r_isWord_0 ?_
  have go : ∀ j, j ≤ strN.getD w 0 → ∀ (x : Int32) (y : Int64), x = nI j → y = lN (wvN (wd w) 0 j) → Go m_r_isWord 5 [some (vR 19 0 48), some (vR 100 0 w), some (vL y), none, some (vI x)] [] (some (vI r)) c (MRc nb db by_ rs) mj mk mj mk := by
    refine upto (fun x y hx hy => ?_) (fun j hj ih x y hx hy => ?_)
    · subst hy
      exact g_r_isWord_5 ⟨fun _ => ⟨fun z => ⟨by rw [h.1 z], rfl, rfl⟩, fun z => ⟨fun z2 => ⟨by rw [(h.2 z).1 z2], rfl, rfl⟩, fun z2 => ⟨by rw [(h.2 z).2 z2], rfl, rfl⟩⟩⟩, fun z => absurd (by rw [sr0 w w7, hx, nI_leI (by omega) (by omega)]; exact Nat.le_refl _) z⟩
    · have cx : x.toNatClampNeg = j := cln hx (by omega)
      have wj := wr j hj
      have bd := wvN_lt (t := wd w) (a := 0) j (fun i hi => by have := wr (0 + i) (by omega); omega)
      have bp : 256 ^ j ≤ 256 ^ 6 := Nat.pow_le_pow_right (by decide) (by omega)
      refine g_r_isWord_5 ⟨fun z => absurd z (by rw [sr0 w w7, hx, nI_leI (by omega) (by omega)]; omega), fun _ => ⟨fun z => absurd z (by rw [hx, show (0 : Int32) = nI 0 from rfl, nI_ltI (by omega) (by decide)]; omega), fun _ => ⟨fun _ => ⟨ixn hx hj (by omega), ih _ _ (inc hx) ?_⟩, fun z => absurd (by rw [hx, nI_ltI (by omega) (by omega)]; exact hj) z⟩⟩⟩
      rw [hy, cx, wd_e, sh8 (by omega) (by omega), wvN_s, Nat.zero_add]
  exact go 0 (Nat.zero_le _) _ _ rfl rfl
theorem W_r_t (K : KR t e a mj mk) (hw : w < 15) (h0 : 0 < w) (h : isW t e a w) : Ret m_r_isWord [vR 19 0 48, vR 100 0 w] (some (vI (nI 1))) c (MRc nb db by_ rs) mj mk mj mk := by
  obtain ⟨k1, k2, k3⟩ := h
  have ew : ∀ n, n ≤ strN.getD w 0 → wvN t a n = wvN (wd w) 0 n := by
    intro n
    induction n with
    | zero => intro _; rfl
    | succ n ih => intro hn; rw [wvN_s, wvN_s, ih (by omega), k3 n (by omega), Nat.zero_add]
  have e9 : mk 48 39 = lN (wvN (wd w) 0 (strN.getD w 0)) := by rw [K.2.2.2.2 k1, k2, ew _ (Nat.le_refl _)]
  exact W_r_go hw h0 _ ⟨fun z => absurd (by rw [K.1, k1]) z, fun _ => ⟨fun z => absurd e9 z, fun _ => rfl⟩⟩
theorem W_r_f (K : KR t e a mj mk) (hw : w < 15) (h0 : 0 < w) (h : ¬ isW t e a w) : Ret m_r_isWord [vR 19 0 48, vR 100 0 w] (some (vI (nI 0))) c (MRc nb db by_ rs) mj mk mj mk := by
  obtain ⟨w7, wr⟩ := wd_r w hw h0
  refine W_r_go hw h0 _ ⟨fun _ => rfl, fun z => ⟨fun _ => rfl, fun z2 => absurd ?_ h⟩⟩
  have k1 : tkK t e a = 2 := by rw [K.1, nI_eq (by have := tkK_4 t e a; omega) (by decide)] at z; exact z
  obtain ⟨hae, eB, l7⟩ := tk_word k1
  have hl : ∀ i, i < tkB t e a - a → 97 ≤ t (a + i) ∧ t (a + i) ≤ 122 := fun i hi => (gLt_i t (a + i)).mp (tto_all (p := a) (e := e) (by omega) (by omega))
  have b1 := wvN_lt (t := t) (a := a) (tkB t e a - a) (fun i hi => by have := hl i hi; omega)
  have b2 := wvN_lt (t := wd w) (a := 0) (strN.getD w 0) (fun i hi => by have := wr (0 + i) (by omega); omega)
  have p1 : 256 ^ (tkB t e a - a) ≤ 256 ^ 7 := Nat.pow_le_pow_right (by decide) l7
  have p2 : 256 ^ (strN.getD w 0) ≤ 256 ^ 7 := Nat.pow_le_pow_right (by decide) w7
  rw [K.2.2.2.2 k1, pk_lEQ (by omega) (by omega)] at z2
  obtain ⟨e1, e2⟩ := wvN_inj _ _ (fun i hi => by have := hl i hi; omega) (fun i hi => by have := wr (0 + i) (by omega); omega) z2
  exact ⟨k1, e1, fun i hi => by rw [e2 i (by omega), Nat.zero_add]⟩
end
