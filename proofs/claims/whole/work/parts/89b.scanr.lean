/-! ===== the reference's scanner; words ===== -/
def wvN (t : Nat → Nat) (a : Nat) : Nat → Nat
  | 0 => 0
  | n + 1 => 256 * wvN t a n + t (a + n)
theorem wvN_s (t : Nat → Nat) (a n : Nat) : wvN t a (n + 1) = 256 * wvN t a n + t (a + n) := rfl
theorem wvN_lt {t : Nat → Nat} {a : Nat} : ∀ n, (∀ i, i < n → t (a + i) ≤ 255) → wvN t a n < 256 ^ n
  | 0, _ => Nat.zero_lt_one
  | n + 1, h => by
    have h1 := wvN_lt n (fun i hi => h i (by omega))
    have h2 := h n (by omega)
    rw [wvN_s, Nat.pow_succ]; omega
theorem wvN_inj {t u : Nat → Nat} {a b : Nat} : ∀ n m, (∀ i, i < n → 1 ≤ t (a + i) ∧ t (a + i) ≤ 255) → (∀ i, i < m → 1 ≤ u (b + i) ∧ u (b + i) ≤ 255) → wvN t a n = wvN u b m → n = m ∧ ∀ i, i < n → t (a + i) = u (b + i)
  | 0, 0, _, _, _ => ⟨rfl, fun i hi => absurd hi (by omega)⟩
  | 0, m + 1, _, hu, h => by
    have := hu m (by omega)
    rw [wvN_s] at h
    have h : 0 = 256 * wvN u b m + u (b + m) := h
    omega
  | n + 1, 0, ht, _, h => by
    have := ht n (by omega)
    rw [wvN_s] at h
    have h : 256 * wvN t a n + t (a + n) = 0 := h
    omega
  | n + 1, m + 1, ht, hu, h => by
    have h1 := ht n (by omega)
    have h2 := hu m (by omega)
    rw [wvN_s, wvN_s] at h
    have e1 : t (a + n) = u (b + m) := by omega
    have e2 : wvN t a n = wvN u b m := by omega
    obtain ⟨e3, e4⟩ := wvN_inj n m (fun i hi => ht i (by omega)) (fun i hi => hu i (by omega)) e2
    refine ⟨by omega, fun i hi => ?_⟩
    by_cases e : i = n
    · rw [e, e1, e3]
    · exact e4 i (by omega)
theorem sh8 {x y : Nat} (hx : x < 2 ^ 48) (hy : y < 256) : (lN x <<< ((nI 8).toInt64 &&& 63)) ||| (nI y).toInt64 = lN (256 * x + y) := by
  have e0 : (nI y).toInt64 = lN y := by rw [nI_z, zI_l (⟨by omega, by omega⟩), lN_z]
  rw [e0]
  apply Int64.toBitVec_inj.mp
  apply BitVec.eq_of_toNat_eq
  have e1 : (lN x <<< ((nI 8).toInt64 &&& 63)).toBitVec.toNat = x <<< 8 := by
    have hs : (((nI 8).toInt64 &&& 63).toBitVec.smod 64).toNat = 8 := by decide
    show ((lN x).toBitVec <<< (((nI 8).toInt64 &&& 63).toBitVec.smod 64).toNat).toNat = _
    rw [hs, BitVec.toNat_shiftLeft, show (lN x).toBitVec.toNat = x from Nat.mod_eq_of_lt (by omega)]
    apply Nat.mod_eq_of_lt
    rw [Nat.shiftLeft_eq]; omega
  have e2 : (lN y).toBitVec.toNat = y := Nat.mod_eq_of_lt (by omega)
  rw [Int64.toBitVec_or, BitVec.toNat_or, e1, e2, ← Nat.shiftLeft_add_eq_or_of_lt (show y < 2 ^ 8 from hy), Nat.shiftLeft_eq, show (lN (256 * x + y)).toBitVec.toNat = 256 * x + y from Nat.mod_eq_of_lt (by omega)]
  omega
/-- the reference stands at the token that begins at a -/
def KR (t : Nat → Nat) (e a : Nat) (m : MI) (l : ML) : Prop := m 48 35 = nI (tkK t e a) ∧ m 48 36 = nI a ∧ (tkK t e a ≠ 0 → m 48 34 = nI (tkB t e a)) ∧ (tkK t e a = 3 → m 48 37 = nI (vlN t a (tkB t e a - a))) ∧ (tkK t e a = 2 → l 48 39 = lN (wvN t a (tkB t e a - a)))
def TM (t : Nat → Nat) (e : Nat) (m : MI) : Prop := m 48 33 = nI e ∧ ∀ k, k < e → m 57 k &&& nI 255 = nI (t k)
/-- of the reference only the token changes -/
def FTr (m m' : MI) (l l' : ML) : Prop := (∀ a, a ≠ 48 → m' a = m a) ∧ (∀ k, k < 34 ∨ 37 < k → m' 48 k = m 48 k) ∧ ∀ a, a ≠ 48 → l' a = l a
section
variable {nb db : Nat} {by_ rs : RX} {c : Nat} {mi mj : MI} {ml mk : ML} {t : Nat → Nat} {e p a : Nat} {x y z : Int32}
theorem FTr.rf : FTr mj mj mk mk := ⟨fun _ _ => rfl, fun _ _ => rfl, fun _ _ => rfl⟩
theorem FTr.tr {m1 m2 m3 : MI} {l1 l2 l3 : ML} (h : FTr m1 m2 l1 l2) (g : FTr m2 m3 l2 l3) : FTr m1 m3 l1 l3 := ⟨fun a ha => by rw [g.1 a ha, h.1 a ha], fun k hk => by rw [g.2.1 k hk, h.2.1 k hk], fun a ha => by rw [g.2.2 a ha, h.2.2 a ha]⟩
theorem FTr.u {m : MI} {l : ML} {k : Nat} (v : Int32) (hk : 34 ≤ k ∧ k ≤ 37) : FTr m (u2 m 48 k v) l l := ⟨fun a ha => u2_o _ _ ha, fun j hj => u2_ne2 _ _ (Or.inr (by omega)), fun _ _ => rfl⟩
theorem FTr.l {m : MI} {l : ML} {k : Nat} (v : Int64) : FTr m m l (u2 l 48 k v) := ⟨fun _ _ => rfl, fun _ _ => rfl, fun a ha => u2_o _ _ ha⟩
theorem TM.fr {m' : MI} {l l' : ML} (T : TM t e mj) (h : FTr mj m' l l') : TM t e m' := ⟨by rw [h.2.1 33 (by omega)]; exact T.1, fun k hk => by rw [h.1 57 (by decide)]; exact T.2 k hk⟩
theorem R_nextWord (T : TM t e mj) (he : e ≤ 800) (ht : ∀ k, t k ≤ 255) (h34 : mj 48 34 = nI a) (h36 : mj 48 36 = nI a) (ha : a ≤ e) :
    ∃ m' l', Ret m_r_nextWord [vR 19 0 48] none c (MRc nb db by_ rs) mj mk m' l' ∧ m' 48 35 = nI (if tto (gLt t) e a - a ≤ 7 then 2 else 0) ∧ m' 48 34 = nI (tto (gLt t) e a) ∧ m' 48 36 = nI a ∧ l' 48 39 = lN (wvN t a (min (tto (gLt t) e a - a) 7)) ∧ FTr mj m' mk l' := by
  have b1 := tto_in (g := gLt t) ha
  have go : ∀ n q, e - q = n → a ≤ q → q ≤ e → tto (gLt t) e q = tto (gLt t) e a → ∀ (m : MI) (l : ML), TM t e m → m 48 34 = nI q → m 48 36 = nI a → l 48 39 = lN (wvN t a (min (q - a) 7)) →
      ∃ m' l', Go m_r_nextWord 5 [some (vR 19 0 48)] [] none c (MRc nb db by_ rs) m l m' l' ∧ m' 48 35 = nI (if tto (gLt t) e a - a ≤ 7 then 2 else 0) ∧ m' 48 34 = nI (tto (gLt t) e a) ∧ m' 48 36 = nI a ∧ l' 48 39 = lN (wvN t a (min (tto (gLt t) e a - a) 7)) ∧ FTr m m' l l' := by
    intro n
    have stop : ∀ q, a ≤ q → q ≤ e → q = tto (gLt t) e a → ∀ (m : MI) (l : ML), m 48 34 = nI q → m 48 36 = nI a → l 48 39 = lN (wvN t a (min (q - a) 7)) →
        ∃ v : Int32, ((((m 48 34) - (m 48 36)) ≤ (nI 7) → (Fin none (u2 m 48 35 (nI 2)) l none (u2 m 48 35 v) l)) ∧ (¬ ((m 48 34) - (m 48 36)) ≤ (nI 7) → (Fin none (u2 m 48 35 (nI 0)) l none (u2 m 48 35 v) l))) ∧ (u2 m 48 35 v) 48 35 = nI (if tto (gLt t) e a - a ≤ 7 then 2 else 0) ∧ (u2 m 48 35 v) 48 34 = nI (tto (gLt t) e a) ∧ (u2 m 48 35 v) 48 36 = nI a ∧ l 48 39 = lN (wvN t a (min (tto (gLt t) e a - a) 7)) ∧ FTr m (u2 m 48 35 v) l l := by
      intro q haq hqe eq m l h1 h2 h3
      have ed : m 48 34 - m 48 36 = nI (q - a) := by rw [h1, h2, nI_sub haq]
      rw [ed, nI_leI (by omega) (by decide), ← eq]
      by_cases l7 : q - a ≤ 7
      · exact ⟨nI 2, ⟨fun _ => ⟨rfl, rfl, rfl⟩, fun z => absurd l7 z⟩, by rw [u2_s, if_pos l7], by rw [u2_ne2 _ _ (Or.inr (by decide)), h1], by rw [u2_ne2 _ _ (Or.inr (by decide)), h2], h3, FTr.u _ (by decide)⟩
      · exact ⟨nI 0, ⟨fun z => absurd z l7, fun _ => ⟨rfl, rfl, rfl⟩⟩, by rw [u2_s, if_neg l7], by rw [u2_ne2 _ _ (Or.inr (by decide)), h1], by rw [u2_ne2 _ _ (Or.inr (by decide)), h2], h3, FTr.u _ (by decide)⟩
    induction n with
    | zero =>
      intro q hn haq hq et m l Tm h1 h2 h3
      have e0 : e ≤ q := by omega
      rw [tto_end e0] at et
      obtain ⟨v, s1, s2⟩ := stop q haq hq et m l h1 h2 h3
      exact ⟨_, _, g_r_nextWord_5 ⟨fun _ => s1, fun h => absurd (by rw [Tm.1, h1, nI_leI (by omega) (by omega)]; exact e0) h⟩, s2⟩
    | succ n ih =>
      intro q hn haq hq et m l Tm h1 h2 h3
      have hqe : q < e := by omega
      have n1 : ¬ m 48 33 ≤ m 48 34 := by rw [Tm.1, h1, nI_leI (by omega) (by omega)]; omega
      have ev : m 57 (m 48 34).toNatClampNeg &&& nI 255 = nI (t q) := by rw [cln h1 (by omega)]; exact Tm.2 q hqe
      have hv : vp_in (m 48 34) 800 := ixn h1 (by omega) (by decide)
      have htq := ht q
      have ed : m 48 34 - m 48 36 = nI (q - a) := by rw [h1, h2, nI_sub haq]
      by_cases g : gLt t q = true
      · obtain ⟨g1, g2⟩ := (gLt_i t q).mp g
        have n2 : ¬ m 57 (m 48 34).toNatClampNeg &&& nI 255 < nI 97 := by rw [ev, nI_ltI (by omega) (by decide)]; omega
        have n3 : ¬ nI 122 < m 57 (m 48 34).toNatClampNeg &&& nI 255 := by rw [ev, nI_ltI (by decide) (by omega)]; omega
        have F1 : FTr m (u2 m 48 34 (m 48 34 + nI 1)) l l := FTr.u _ (by decide)
        by_cases l7 : 7 ≤ q - a
        · obtain ⟨m', l', k1, k2, k3, k4, k5, k6⟩ := ih (q + 1) (by omega) (by omega) (by omega) (by rw [← et, tto_go hqe g]) (u2 m 48 34 (m 48 34 + nI 1)) l (Tm.fr F1) (by rw [u2_s, inc h1]) (by rw [u2_ne2 _ _ (Or.inr (by decide)), h2]) (by rw [h3, Nat.min_eq_right l7, Nat.min_eq_right (by omega)])
          exact ⟨m', l', g_r_nextWord_5 ⟨fun z => absurd z n1, fun _ => ⟨hv, fun z => absurd z n2, fun _ => ⟨fun z => absurd z n3, fun _ => ⟨fun _ => k1, fun z => absurd (by rw [ed, nI_leI (by decide) (by omega)]; exact l7) z⟩⟩⟩⟩, k2, k3, k4, k5, F1.tr k6⟩
        · have n7 : ¬ nI 7 ≤ m 48 34 - m 48 36 := by rw [ed, nI_leI (by decide) (by omega)]; exact l7
          have bd := wvN_lt (t := t) (a := a) (q - a) (fun i _ => ht _)
          have bp : 256 ^ (q - a) ≤ 256 ^ 6 := Nat.pow_le_pow_right (by decide) (by omega)
          have F2 : FTr m (u2 m 48 34 (m 48 34 + nI 1)) l (u2 l 48 39 ((l 48 39 <<< ((nI 8).toInt64 &&& 63)) ||| (m 57 (m 48 34).toNatClampNeg &&& nI 255).toInt64)) := ⟨F1.1, F1.2.1, fun a ha => u2_o _ _ ha⟩
          obtain ⟨m', l', k1, k2, k3, k4, k5, k6⟩ := ih (q + 1) (by omega) (by omega) (by omega) (by rw [← et, tto_go hqe g]) (u2 m 48 34 (m 48 34 + nI 1)) (u2 l 48 39 ((l 48 39 <<< ((nI 8).toInt64 &&& 63)) ||| (m 57 (m 48 34).toNatClampNeg &&& nI 255).toInt64)) (Tm.fr F1 (l := l) (l' := l)) (by rw [u2_s, inc h1]) (by rw [u2_ne2 _ _ (Or.inr (by decide)), h2]) (by
            rw [u2_s, h3, ev, Nat.min_eq_left (by omega), sh8 (by omega) (by omega), Nat.min_eq_left (by omega), show q + 1 - a = (q - a) + 1 by omega, wvN_s, show a + (q - a) = q by omega])
          exact ⟨m', l', g_r_nextWord_5 ⟨fun z => absurd z n1, fun _ => ⟨hv, fun z => absurd z n2, fun _ => ⟨fun z => absurd z n3, fun _ => ⟨fun z => absurd z n7, fun _ => ⟨fun z => absurd z n1, fun _ => ⟨hv, k1⟩⟩⟩⟩⟩⟩, k2, k3, k4, k5, F2.tr k6⟩
      · rw [tto_no g] at et
        obtain ⟨v, s1, s2⟩ := stop q haq hq et m l h1 h2 h3
        refine ⟨_, _, g_r_nextWord_5 ⟨fun z => absurd z n1, fun _ => ⟨hv, fun _ => s1, fun z => ⟨fun _ => s1, fun z2 => ?_⟩⟩⟩, s2⟩
        rw [ev, nI_ltI (by omega) (by decide)] at z
        rw [ev, nI_ltI (by decide) (by omega)] at z2
        exact absurd ((gLt_i t q).mpr ⟨by omega, by omega⟩) g
  obtain ⟨m', l', k1, k2, k3, k4, k5, k6⟩ := go (e - a) a rfl (Nat.le_refl _) ha rfl mj (u2 mk 48 39 (lN 0)) T h34 h36 (by rw [u2_s, Nat.sub_self]; rfl)
  exact ⟨m', l', g_r_nextWord_0 k1, k2, k3, k4, k5, (FTr.l _).tr k6⟩
theorem R_nextWhole (T : TM t e mj) (he : e ≤ 800) (ht : ∀ k, t k ≤ 255) (h34 : mj 48 34 = nI a) (h36 : mj 48 36 = nI a) (ha : a ≤ e) :
    ∃ m', Ret m_r_nextWhole [vR 19 0 48] none c (MRc nb db by_ rs) mj mk m' mk ∧ m' 48 35 = nI (if tto (gDg t) e a - a ≤ 6 then 3 else 0) ∧ m' 48 34 = nI (tto (gDg t) e a) ∧ m' 48 36 = nI a ∧ m' 48 37 = nI (vlN t a (min (tto (gDg t) e a - a) 6)) ∧ FTr mj m' mk mk := by
  have b1 := tto_in (g := gDg t) ha
  have go : ∀ n q, e - q = n → a ≤ q → q ≤ e → tto (gDg t) e q = tto (gDg t) e a → ∀ m : MI, TM t e m → m 48 34 = nI q → m 48 36 = nI a → m 48 37 = nI (vlN t a (min (q - a) 6)) →
      ∃ m', Go m_r_nextWhole 5 [some (vR 19 0 48)] [] none c (MRc nb db by_ rs) m mk m' mk ∧ m' 48 35 = nI (if tto (gDg t) e a - a ≤ 6 then 3 else 0) ∧ m' 48 34 = nI (tto (gDg t) e a) ∧ m' 48 36 = nI a ∧ m' 48 37 = nI (vlN t a (min (tto (gDg t) e a - a) 6)) ∧ FTr m m' mk mk := by
    intro n
    have stop : ∀ q, a ≤ q → q ≤ e → q = tto (gDg t) e a → ∀ m : MI, m 48 34 = nI q → m 48 36 = nI a → m 48 37 = nI (vlN t a (min (q - a) 6)) →
        ∃ v : Int32, ((((m 48 34) - (m 48 36)) ≤ (nI 6) → (Fin none (u2 m 48 35 (nI 3)) mk none (u2 m 48 35 v) mk)) ∧ (¬ ((m 48 34) - (m 48 36)) ≤ (nI 6) → (Fin none (u2 m 48 35 (nI 0)) mk none (u2 m 48 35 v) mk))) ∧ (u2 m 48 35 v) 48 35 = nI (if tto (gDg t) e a - a ≤ 6 then 3 else 0) ∧ (u2 m 48 35 v) 48 34 = nI (tto (gDg t) e a) ∧ (u2 m 48 35 v) 48 36 = nI a ∧ (u2 m 48 35 v) 48 37 = nI (vlN t a (min (tto (gDg t) e a - a) 6)) ∧ FTr m (u2 m 48 35 v) mk mk := by
      intro q haq hqe eq m h1 h2 h3
      have ed : m 48 34 - m 48 36 = nI (q - a) := by rw [h1, h2, nI_sub haq]
      rw [ed, nI_leI (by omega) (by decide), ← eq]
      by_cases l7 : q - a ≤ 6
      · exact ⟨nI 3, ⟨fun _ => ⟨rfl, rfl, rfl⟩, fun z => absurd l7 z⟩, by rw [u2_s, if_pos l7], by rw [u2_ne2 _ _ (Or.inr (by decide)), h1], by rw [u2_ne2 _ _ (Or.inr (by decide)), h2], by rw [u2_ne2 _ _ (Or.inr (by decide)), h3], FTr.u _ (by decide)⟩
      · exact ⟨nI 0, ⟨fun z => absurd z l7, fun _ => ⟨rfl, rfl, rfl⟩⟩, by rw [u2_s, if_neg l7], by rw [u2_ne2 _ _ (Or.inr (by decide)), h1], by rw [u2_ne2 _ _ (Or.inr (by decide)), h2], by rw [u2_ne2 _ _ (Or.inr (by decide)), h3], FTr.u _ (by decide)⟩
    induction n with
    | zero =>
      intro q hn haq hq et m Tm h1 h2 h3
      have e0 : e ≤ q := by omega
      rw [tto_end e0] at et
      obtain ⟨v, s1, s2⟩ := stop q haq hq et m h1 h2 h3
      exact ⟨_, g_r_nextWhole_5 ⟨fun _ => s1, fun h => absurd (by rw [Tm.1, h1, nI_leI (by omega) (by omega)]; exact e0) h⟩, s2⟩
    | succ n ih =>
      intro q hn haq hq et m Tm h1 h2 h3
      have hqe : q < e := by omega
      have n1 : ¬ m 48 33 ≤ m 48 34 := by rw [Tm.1, h1, nI_leI (by omega) (by omega)]; omega
      have ev : m 57 (m 48 34).toNatClampNeg &&& nI 255 = nI (t q) := by rw [cln h1 (by omega)]; exact Tm.2 q hqe
      have hv : vp_in (m 48 34) 800 := ixn h1 (by omega) (by decide)
      have htq := ht q
      have ed : m 48 34 - m 48 36 = nI (q - a) := by rw [h1, h2, nI_sub haq]
      by_cases g : gDg t q = true
      · obtain ⟨g1, g2⟩ := (gDg_i t q).mp g
        have n2 : ¬ m 57 (m 48 34).toNatClampNeg &&& nI 255 < nI 48 := by rw [ev, nI_ltI (by omega) (by decide)]; omega
        have n3 : ¬ nI 57 < m 57 (m 48 34).toNatClampNeg &&& nI 255 := by rw [ev, nI_ltI (by decide) (by omega)]; omega
        by_cases l7 : 6 ≤ q - a
        · have F1 : FTr m (u2 m 48 34 (m 48 34 + nI 1)) mk mk := FTr.u _ (by decide)
          obtain ⟨m', k1, k2, k3, k4, k5, k6⟩ := ih (q + 1) (by omega) (by omega) (by omega) (by rw [← et, tto_go hqe g]) (u2 m 48 34 (m 48 34 + nI 1)) (Tm.fr F1) (by rw [u2_s, inc h1]) (by rw [u2_ne2 _ _ (Or.inr (by decide)), h2]) (by rw [u2_ne2 _ _ (Or.inr (by decide)), h3, Nat.min_eq_right l7, Nat.min_eq_right (by omega)])
          exact ⟨m', g_r_nextWhole_5 ⟨fun z => absurd z n1, fun _ => ⟨hv, fun z => absurd z n2, fun _ => ⟨fun z => absurd z n3, fun _ => ⟨fun _ => k1, fun z => absurd (by rw [ed, nI_leI (by decide) (by omega)]; exact l7) z⟩⟩⟩⟩, k2, k3, k4, k5, F1.tr k6⟩
        · have n7 : ¬ nI 6 ≤ m 48 34 - m 48 36 := by rw [ed, nI_leI (by decide) (by omega)]; exact l7
          have F2 : FTr m (u2 (u2 m 48 37 (nI 10 * m 48 37 + (m 57 (m 48 34).toNatClampNeg &&& nI 255) - nI 48)) 48 34 (m 48 34 + nI 1)) mk mk := (FTr.u _ (by decide)).tr (FTr.u _ (by decide))
          obtain ⟨m', k1, k2, k3, k4, k5, k6⟩ := ih (q + 1) (by omega) (by omega) (by omega) (by rw [← et, tto_go hqe g]) _ (Tm.fr F2) (by rw [u2_s, inc h1]) (by rw [u2_ne2 _ _ (Or.inr (by decide)), u2_ne2 _ _ (Or.inr (by decide)), h2]) (by
            rw [u2_ne2 _ _ (Or.inr (by decide)), u2_s, h3, ev, Nat.min_eq_left (by omega), pk_mul, nI_add, nI_sub (by omega), Nat.min_eq_left (by omega), show q + 1 - a = (q - a) + 1 by omega]
            show nI (10 * vlN t a (q - a) + t q - 48) = nI (10 * vlN t a (q - a) + t (a + (q - a)) - 48)
            rw [show a + (q - a) = q by omega])
          exact ⟨m', g_r_nextWhole_5 ⟨fun z => absurd z n1, fun _ => ⟨hv, fun z => absurd z n2, fun _ => ⟨fun z => absurd z n3, fun _ => ⟨fun z => absurd z n7, fun _ => ⟨fun z => absurd z n1, fun _ => ⟨hv, k1⟩⟩⟩⟩⟩⟩, k2, k3, k4, k5, F2.tr k6⟩
      · rw [tto_no g] at et
        obtain ⟨v, s1, s2⟩ := stop q haq hq et m h1 h2 h3
        refine ⟨_, g_r_nextWhole_5 ⟨fun z => absurd z n1, fun _ => ⟨hv, fun _ => s1, fun z => ⟨fun _ => s1, fun z2 => ?_⟩⟩⟩, s2⟩
        rw [ev, nI_ltI (by omega) (by decide)] at z
        rw [ev, nI_ltI (by decide) (by omega)] at z2
        exact absurd ((gDg_i t q).mpr ⟨by omega, by omega⟩) g
  obtain ⟨m', k1, k2, k3, k4, k5, k6⟩ := go (e - a) a rfl (Nat.le_refl _) ha rfl (u2 mj 48 37 (nI 0)) (T.fr (FTr.u (l := mk) _ (by decide))) (by rw [u2_ne2 _ _ (Or.inr (by decide)), h34]) (by rw [u2_ne2 _ _ (Or.inr (by decide)), h36]) (by rw [u2_s, Nat.sub_self]; rfl)
  exact ⟨m', g_r_nextWhole_0 k1, k2, k3, k4, k5, (FTr.u _ (by decide)).tr k6⟩
end
