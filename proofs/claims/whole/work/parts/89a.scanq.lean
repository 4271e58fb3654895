/-! ===== a text: its tokens; the class's scanner ===== -/
def rnG (g : Nat → Bool) : Nat → Nat → Nat
  | 0, p => p
  | n + 1, p => if g p = true then rnG g n (p + 1) else p
/-- from p on, as long as g holds and the text goes -/
def tto (g : Nat → Bool) (e p : Nat) : Nat := rnG g (e - p) p
theorem tto_end {g : Nat → Bool} {e p : Nat} (h : e ≤ p) : tto g e p = p := by unfold tto; rw [show e - p = 0 by omega]; rfl
theorem tto_go {g : Nat → Bool} {e p : Nat} (h : p < e) (hg : g p = true) : tto g e p = tto g e (p + 1) := by
  unfold tto; rw [show e - p = (e - (p + 1)) + 1 by omega]
  show (if g p = true then rnG g (e - (p + 1)) (p + 1) else p) = _
  rw [if_pos hg]
theorem tto_no {g : Nat → Bool} {e p : Nat} (hg : ¬ g p = true) : tto g e p = p := by
  unfold tto
  cases e - p with
  | zero => rfl
  | succ n => show (if g p = true then rnG g n (p + 1) else p) = p; rw [if_neg hg]
theorem rnG_in (g : Nat → Bool) : ∀ n p, p ≤ rnG g n p ∧ rnG g n p ≤ p + n
  | 0, p => ⟨Nat.le_refl _, Nat.le_refl _⟩
  | n + 1, p => by
    show p ≤ (if g p = true then rnG g n (p + 1) else p) ∧ (if g p = true then rnG g n (p + 1) else p) ≤ p + (n + 1)
    by_cases h : g p = true
    · rw [if_pos h]; have := rnG_in g n (p + 1); omega
    · rw [if_neg h]; omega
theorem tto_in {g : Nat → Bool} {e p : Nat} (h : p ≤ e) : p ≤ tto g e p ∧ tto g e p ≤ e := by
  have := rnG_in g (e - p) p
  unfold tto; omega
theorem rnG_all (g : Nat → Bool) : ∀ n p k, p ≤ k → k < rnG g n p → g k = true
  | 0, p, k, h1, h2 => absurd (show k < p from h2) (by omega)
  | n + 1, p, k, h1, h2 => by
    have h2 : k < (if g p = true then rnG g n (p + 1) else p) := h2
    by_cases h : g p = true
    · rw [if_pos h] at h2
      by_cases e : k = p
      · rw [e]; exact h
      · exact rnG_all g n (p + 1) k (by omega) h2
    · rw [if_neg h] at h2; omega
theorem tto_all {g : Nat → Bool} {e p k : Nat} (h1 : p ≤ k) (h2 : k < tto g e p) : g k = true := rnG_all g _ p k h1 h2
def gBl (t : Nat → Nat) (k : Nat) : Bool := t k == 32
def gLt (t : Nat → Nat) (k : Nat) : Bool := Nat.ble 97 (t k) && Nat.ble (t k) 122
def gDg (t : Nat → Nat) (k : Nat) : Bool := Nat.ble 48 (t k) && Nat.ble (t k) 57
theorem gLt_i (t : Nat → Nat) (k : Nat) : gLt t k = true ↔ 97 ≤ t k ∧ t k ≤ 122 := by unfold gLt; rw [Bool.and_eq_true, Nat.ble_eq, Nat.ble_eq]
theorem gDg_i (t : Nat → Nat) (k : Nat) : gDg t k = true ↔ 48 ≤ t k ∧ t k ≤ 57 := by unfold gDg; rw [Bool.and_eq_true, Nat.ble_eq, Nat.ble_eq]
theorem gBl_i (t : Nat → Nat) (k : Nat) : gBl t k = true ↔ t k = 32 := by unfold gBl; exact beq_iff_eq
/-- a token: where it begins, where it ends, its sort, its amount -/
def tkA (t : Nat → Nat) (e p : Nat) : Nat := tto (gBl t) e p
def tkB (t : Nat → Nat) (e a : Nat) : Nat := if e ≤ a then e else if gLt t a = true then tto (gLt t) e a else if gDg t a = true then tto (gDg t) e a else a + 1
def tkK (t : Nat → Nat) (e a : Nat) : Nat := if e ≤ a then 1 else if gLt t a = true then (if tto (gLt t) e a - a ≤ 7 then 2 else 0) else if gDg t a = true then (if tto (gDg t) e a - a ≤ 6 then 3 else 0) else if t a = 59 then 4 else 0
def vlN (t : Nat → Nat) (a : Nat) : Nat → Nat
  | 0 => 0
  | n + 1 => 10 * vlN t a n + t (a + n) - 48
def csK (κ : Nat) : Nat := if κ = 0 then 4 else κ - 1
/-- the class stands at the token that begins at a -/
def KC (t : Nat → Nat) (e a : Nat) (m : MI) : Prop := m 4 5 = nI (csK (tkK t e a)) ∧ m 4 6 = nI a ∧ (tkK t e a ≠ 0 → m 4 7 = nI (tkB t e a)) ∧ (tkK t e a = 3 → m 4 8 = nI (vlN t a (tkB t e a - a)))
def TC (t : Nat → Nat) (e : Nat) (m : MI) : Prop := m 4 4 = nI e ∧ ∀ k, k < e → m 3 k = nI (t k)
/-- of the class only the token changes -/
def FTc (m m' : MI) : Prop := (∀ a, a ≠ 4 → m' a = m a) ∧ ∀ k, k < 5 ∨ 8 < k → m' 4 k = m 4 k
section
variable {nb db : Nat} {rs : RX} {c : Nat} {mi : MI} {ml : ML} {t : Nat → Nat} {e p a : Nat} {x y z : Int32}
theorem FTc.tr {m1 m2 m3 : MI} (h : FTc m1 m2) (g : FTc m2 m3) : FTc m1 m3 := ⟨fun a ha => by rw [g.1 a ha, h.1 a ha], fun k hk => by rw [g.2 k hk, h.2 k hk]⟩
theorem FTc.u {m : MI} {k : Nat} (v : Int32) (hk : 5 ≤ k ∧ k ≤ 8) : FTc m (u2 m 4 k v) := ⟨fun a ha => u2_o _ _ ha, fun j hj => u2_ne2 _ _ (Or.inr (by omega))⟩
theorem TC.fr {m' : MI} (T : TC t e mi) (h : FTc mi m') : TC t e m' := ⟨by rw [h.2 4 (by omega)]; exact T.1, fun k hk => by rw [h.1 3 (by decide)]; exact T.2 k hk⟩
theorem R_runOf (T : TC t e mi) (he : e ≤ 800) (ht : ∀ k, t k ≤ 255) {lo hi : Nat} (hlo : lo ≤ 255) (hhi : hi ≤ 255) {g : Nat → Bool} (hg : ∀ k, g k = true ↔ lo ≤ t k ∧ t k ≤ hi) (h6 : mi 4 6 = nI a) (ha : a ≤ e) :
    Ret m_rd_runOf [vR 12 0 4, vI (nI lo), vI (nI hi)] (some (vI (nI (tto g e a - a)))) c (MRc nb db (some (0, 800, 3)) rs) mi ml mi ml := by
  refine g_rd_runOf_0 ?_
  have go : ∀ n q, e - q = n → a ≤ q → q ≤ e → tto g e q = tto g e a → ∀ x : Int32, x = nI q → Go m_rd_runOf 5 [some (vR 12 0 4), some (vI (nI lo)), some (vI (nI hi)), some (vI x)] [] (some (vI (nI (tto g e a - a)))) c (MRc nb db (some (0, 800, 3)) rs) mi ml mi ml := by
    intro n
    induction n with
    | zero =>
      intro q hn haq hq et x hx
      have e0 : e ≤ q := by omega
      rw [tto_end e0] at et
      exact g_rd_runOf_5 ⟨fun _ => ⟨by rw [hx, h6, nI_sub haq, ← et], rfl, rfl⟩, fun h => absurd (by rw [T.1, hx, nI_leI (by omega) (by omega)]; exact e0) h⟩
    | succ n ih =>
      intro q hn haq hq et x hx
      have hqe : q < e := by omega
      have n1 : ¬ mi 4 4 ≤ x := by rw [T.1, hx, nI_leI (by omega) (by omega)]; omega
      have ev : mi 3 x.toNatClampNeg = nI (t q) := by rw [cln hx (by omega)]; exact T.2 q hqe
      have hv : vp_in x 800 := ixn hx (by omega) (by decide)
      have htq := ht q
      have fin : ¬ g q = true → Fin (some (vI (x - mi 4 6))) mi ml (some (vI (nI (tto g e a - a)))) mi ml := fun hng => ⟨by rw [← et, tto_no hng, hx, h6, nI_sub haq], rfl, rfl⟩
      refine g_rd_runOf_5 ⟨fun h => absurd h n1, fun _ => ⟨hv, fun h => ?_, fun h => ⟨hv, fun h2 => ?_, fun h2 => ?_⟩⟩⟩
      · rw [ev, nI_ltI (by omega) (by omega)] at h
        exact fin (fun z => absurd ((hg q).mp z).1 (by omega))
      · rw [ev, nI_ltI (by omega) (by omega)] at h2
        exact fin (fun z => absurd ((hg q).mp z).2 (by omega))
      · rw [ev, nI_ltI (by omega) (by omega)] at h h2
        have gq : g q = true := (hg q).mpr ⟨by omega, by omega⟩
        exact ih (q + 1) (by omega) (by omega) (by omega) (by rw [← et, tto_go hqe gq]) _ (inc hx)
  exact go (e - a) a rfl (Nat.le_refl _) ha rfl _ h6
theorem R_wholeOf (T : TC t e mi) (he : e ≤ 800) (ht : ∀ k, t k ≤ 255) {b : Nat} (hab : a ≤ b) (hbe : b ≤ e) (hd : ∀ k, a ≤ k → k < b → 48 ≤ t k) (h6 : mi 4 6 = nI a) (hx : x = nI b) :
    Ret m_rd_wholeOf [vR 12 0 4, vI x] (some (vI (nI (vlN t a (b - a))))) c (MRc nb db (some (0, 800, 3)) rs) mi ml mi ml := by
  refine g_rd_wholeOf_0 ?_
  have go : ∀ n j, b - (a + j) = n → a + j ≤ b → ∀ y z : Int32, y = nI (vlN t a j) → z = nI (a + j) → Go m_rd_wholeOf 7 [some (vR 12 0 4), some (vI x), some (vI y), some (vI z)] [] (some (vI (nI (vlN t a (b - a))))) c (MRc nb db (some (0, 800, 3)) rs) mi ml mi ml := by
    intro n
    induction n with
    | zero =>
      intro j hn hj y z hy hz
      exact g_rd_wholeOf_7 ⟨fun _ => ⟨by rw [hy, show b - a = j by omega], rfl, rfl⟩, fun h => absurd (by rw [hx, hz, nI_leI (by omega) (by omega)]; omega) h⟩
    | succ n ih =>
      intro j hn hj y z hy hz
      have n1 : ¬ x ≤ z := by rw [hx, hz, nI_leI (by omega) (by omega)]; omega
      have n2 : ¬ mi 4 4 ≤ z := by rw [T.1, hz, nI_leI (by omega) (by omega)]; omega
      have ev : mi 3 z.toNatClampNeg = nI (t (a + j)) := by rw [cln hz (by omega)]; exact T.2 _ (by omega)
      have h48 := hd (a + j) (by omega) (by omega)
      refine g_rd_wholeOf_7 ⟨fun h => absurd h n1, fun _ => ⟨fun h => absurd h n2, fun _ => ⟨ixn hz (by omega) (by decide), ?_⟩⟩⟩
      refine ih (j + 1) (by omega) (by omega) _ _ ?_ (by rw [inc hz, Nat.add_assoc])
      rw [ev, hy, show nI (vlN t a j) * nI 10 = nI (vlN t a j * 10) from (Int32.ofNat_mul _ _).symm, nI_add, nI_sub (by omega)]
      congr 1
      show vlN t a j * 10 + t (a + j) - 48 = 10 * vlN t a j + t (a + j) - 48
      omega
  exact go (b - a) 0 (by omega) (by omega) _ _ rfl (by rw [Nat.add_zero]; exact h6)
/-- the sort, the end and the amount of the token that begins here -/
theorem R_tok (T : TC t e mi) (he : e ≤ 800) (ht : ∀ k, t k ≤ 255) (h6 : mi 4 6 = nI a) (ha : a ≤ e) (hbl : a < e → t a ≠ 32) :
    ∃ m', Go m_rd_next 8 [some (vR 12 0 4), none, none] [] none c (MRc nb db (some (0, 800, 3)) rs) mi ml m' ml ∧ KC t e a m' ∧ FTc mi m' := by
  have r1 := R_runOf (nb := nb) (db := db) (rs := rs) (c := c) (ml := ml) T he ht (lo := 97) (hi := 122) (by decide) (by decide) (gLt_i t) h6 ha
  have r2 := R_runOf (nb := nb) (db := db) (rs := rs) (c := c) (ml := ml) T he ht (lo := 48) (hi := 57) (by decide) (by decide) (gDg_i t) h6 ha
  have b1 := tto_in (g := gLt t) ha
  have b2 := tto_in (g := gDg t) ha
  by_cases hae : a < e
  · have n1 : ¬ mi 4 4 ≤ mi 4 6 := by rw [T.1, h6, nI_leI (by omega) (by omega)]; omega
    have y1 : mi 4 6 < mi 4 4 := by rw [T.1, h6, nI_ltI (by omega) (by omega)]; exact hae
    have hv : vp_in (mi 4 6) 800 := ixn h6 (by omega) (by decide)
    have ev : mi 3 (mi 4 6).toNatClampNeg = nI (t a) := by rw [cln h6 (by omega)]; exact T.2 a hae
    have hta := ht a
    have n32 : ¬ mi 3 (mi 4 6).toNatClampNeg = nI 32 := by rw [ev, nI_eq (by omega) (by decide)]; exact hbl hae
    have go : ∀ m', _ → Go m_rd_next 8 [some (vR 12 0 4), none, none] [] none c (MRc nb db (some (0, 800, 3)) rs) mi ml m' ml := fun m' h => g_rd_next_8 ⟨fun z => absurd z n1, fun _ => ⟨hv, fun _ => ⟨_, r1, _, r2, fun _ => h, fun z => absurd y1 z⟩, fun z => absurd z n32⟩⟩
    by_cases g1 : gLt t a = true
    · have w1 : a < tto (gLt t) e a := by rw [tto_go hae g1]; have := tto_in (g := gLt t) (show a + 1 ≤ e by omega); omega
      have n0 : ¬ nI (tto (gLt t) e a - a) ≤ 0 := by rw [show (0 : Int32) = nI 0 from rfl, nI_leI (by omega) (by decide)]; omega
      have ea : mi 4 6 + nI (tto (gLt t) e a - a) = nI (tto (gLt t) e a) := by rw [h6, nI_add]; congr 1; omega
      have eB : tkB t e a = tto (gLt t) e a := by unfold tkB; rw [if_neg (by omega), if_pos g1]
      by_cases l7 : tto (gLt t) e a - a ≤ 7
      · have eK : tkK t e a = 2 := by unfold tkK; rw [if_neg (by omega), if_pos g1, if_pos l7]
        refine ⟨u2 (u2 mi 4 5 (nI 1)) 4 7 (mi 4 6 + nI (tto (gLt t) e a - a)), go _ ⟨fun z => absurd z n0, fun _ => ⟨fun z => absurd ((nI_ltI (by decide) (by omega)).mp z) (by omega), fun _ => ⟨rfl, rfl, rfl⟩⟩⟩, ⟨?_, ?_, fun _ => ?_, fun z => ?_⟩, (FTc.u _ (by decide)).tr (FTc.u _ (by decide))⟩
        · rw [eK, u2_ne2 _ _ (Or.inr (by decide)), u2_s]; rfl
        · rw [u2_ne2 _ _ (Or.inr (by decide)), u2_ne2 _ _ (Or.inr (by decide)), h6]
        · rw [u2_s, ea, eB]
        · rw [eK] at z; exact absurd z (by decide)
      · have eK : tkK t e a = 0 := by unfold tkK; rw [if_neg (by omega), if_pos g1, if_neg l7]
        refine ⟨u2 (u2 mi 4 5 (nI 4)) 4 7 (mi 4 6 + nI (tto (gLt t) e a - a)), go _ ⟨fun z => absurd z n0, fun _ => ⟨fun _ => ⟨rfl, rfl, rfl⟩, fun z => absurd ((nI_ltI (by decide) (by omega)).mpr (by omega)) z⟩⟩, ⟨?_, ?_, fun z => absurd eK z, fun z => ?_⟩, (FTc.u _ (by decide)).tr (FTc.u _ (by decide))⟩
        · rw [eK, u2_ne2 _ _ (Or.inr (by decide)), u2_s]; rfl
        · rw [u2_ne2 _ _ (Or.inr (by decide)), u2_ne2 _ _ (Or.inr (by decide)), h6]
        · rw [eK] at z; exact absurd z (by decide)
    · have y0 : nI (tto (gLt t) e a - a) ≤ 0 := by rw [tto_no g1, Nat.sub_self]; decide
      by_cases g2 : gDg t a = true
      · have w1 : a < tto (gDg t) e a := by rw [tto_go hae g2]; have := tto_in (g := gDg t) (show a + 1 ≤ e by omega); omega
        have n0 : ¬ nI (tto (gDg t) e a - a) ≤ 0 := by rw [show (0 : Int32) = nI 0 from rfl, nI_leI (by omega) (by decide)]; omega
        have ea : mi 4 6 + nI (tto (gDg t) e a - a) = nI (tto (gDg t) e a) := by rw [h6, nI_add]; congr 1; omega
        have eB : tkB t e a = tto (gDg t) e a := by unfold tkB; rw [if_neg (by omega), if_neg g1, if_pos g2]
        have hd : ∀ k, a ≤ k → k < tto (gDg t) e a → 48 ≤ t k := fun k h1 h2 => ((gDg_i t k).mp (tto_all h1 h2)).1
        have W : ∀ v : Int32, Ret m_rd_wholeOf [vR 12 0 4, vI (mi 4 6 + nI (tto (gDg t) e a - a))] (some (vI (nI (vlN t a (tto (gDg t) e a - a))))) c (MRc nb db (some (0, 800, 3)) rs) (u2 (u2 mi 4 5 v) 4 7 (mi 4 6 + nI (tto (gDg t) e a - a))) ml (u2 (u2 mi 4 5 v) 4 7 (mi 4 6 + nI (tto (gDg t) e a - a))) ml := fun v => R_wholeOf (T.fr ((FTc.u _ (by decide)).tr (FTc.u _ (by decide)))) he ht b2.1 b2.2 hd (by rw [u2_ne2 _ _ (Or.inr (by decide)), u2_ne2 _ _ (Or.inr (by decide)), h6]) ea
        by_cases l6 : tto (gDg t) e a - a ≤ 6
        · have eK : tkK t e a = 3 := by unfold tkK; rw [if_neg (by omega), if_neg g1, if_pos g2, if_pos l6]
          refine ⟨u2 (u2 (u2 mi 4 5 (nI 2)) 4 7 (mi 4 6 + nI (tto (gDg t) e a - a))) 4 8 (nI (vlN t a (tto (gDg t) e a - a))), go _ ⟨fun _ => ⟨fun z => absurd z n0, fun _ => ⟨fun z => absurd ((nI_ltI (by decide) (by omega)).mp z) (by omega), fun _ => ⟨_, W _, rfl, rfl, rfl⟩⟩⟩, fun z => absurd y0 z⟩, ⟨?_, ?_, fun _ => ?_, fun _ => ?_⟩, ((FTc.u _ (by decide)).tr (FTc.u _ (by decide))).tr (FTc.u _ (by decide))⟩
          · rw [eK, u2_ne2 _ _ (Or.inr (by decide)), u2_ne2 _ _ (Or.inr (by decide)), u2_s]; rfl
          · rw [u2_ne2 _ _ (Or.inr (by decide)), u2_ne2 _ _ (Or.inr (by decide)), u2_ne2 _ _ (Or.inr (by decide)), h6]
          · rw [u2_ne2 _ _ (Or.inr (by decide)), u2_s, ea, eB]
          · rw [u2_s, eB]
        · have eK : tkK t e a = 0 := by unfold tkK; rw [if_neg (by omega), if_neg g1, if_pos g2, if_neg l6]
          refine ⟨u2 (u2 (u2 mi 4 5 (nI 4)) 4 7 (mi 4 6 + nI (tto (gDg t) e a - a))) 4 8 (nI (vlN t a (tto (gDg t) e a - a))), go _ ⟨fun _ => ⟨fun z => absurd z n0, fun _ => ⟨fun _ => ⟨_, W _, rfl, rfl, rfl⟩, fun z => absurd ((nI_ltI (by decide) (by omega)).mpr (by omega)) z⟩⟩, fun z => absurd y0 z⟩, ⟨?_, ?_, fun z => absurd eK z, fun z => ?_⟩, ((FTc.u _ (by decide)).tr (FTc.u _ (by decide))).tr (FTc.u _ (by decide))⟩
          · rw [eK, u2_ne2 _ _ (Or.inr (by decide)), u2_ne2 _ _ (Or.inr (by decide)), u2_s]; rfl
          · rw [u2_ne2 _ _ (Or.inr (by decide)), u2_ne2 _ _ (Or.inr (by decide)), u2_ne2 _ _ (Or.inr (by decide)), h6]
          · rw [eK] at z; exact absurd z (by decide)
      · have y2 : nI (tto (gDg t) e a - a) ≤ 0 := by rw [tto_no g2, Nat.sub_self]; decide
        have eB : tkB t e a = a + 1 := by unfold tkB; rw [if_neg (by omega), if_neg g1, if_neg g2]
        by_cases g3 : t a = 59
        · have eK : tkK t e a = 4 := by unfold tkK; rw [if_neg (by omega), if_neg g1, if_neg g2, if_pos g3]
          have y3 : mi 3 (mi 4 6).toNatClampNeg = nI 59 := by rw [ev, g3]
          refine ⟨u2 (u2 mi 4 5 (nI 3)) 4 7 (mi 4 6 + nI 1), go _ ⟨fun _ => ⟨fun _ => ⟨hv, fun z => absurd y3 z, fun _ => ⟨rfl, rfl, rfl⟩⟩, fun z => absurd y2 z⟩, fun z => absurd y0 z⟩, ⟨?_, ?_, fun _ => ?_, fun z => ?_⟩, (FTc.u _ (by decide)).tr (FTc.u _ (by decide))⟩
          · rw [eK, u2_ne2 _ _ (Or.inr (by decide)), u2_s]; rfl
          · rw [u2_ne2 _ _ (Or.inr (by decide)), u2_ne2 _ _ (Or.inr (by decide)), h6]
          · rw [u2_s, inc h6, eB]
          · rw [eK] at z; exact absurd z (by decide)
        · have eK : tkK t e a = 0 := by unfold tkK; rw [if_neg (by omega), if_neg g1, if_neg g2, if_neg g3]
          have n3 : ¬ mi 3 (mi 4 6).toNatClampNeg = nI 59 := by rw [ev, nI_eq (by omega) (by decide)]; exact g3
          refine ⟨u2 (u2 mi 4 5 (nI 4)) 4 7 (mi 4 6 + nI 1), go _ ⟨fun _ => ⟨fun _ => ⟨hv, fun _ => ⟨rfl, rfl, rfl⟩, fun z => absurd z n3⟩, fun z => absurd y2 z⟩, fun z => absurd y0 z⟩, ⟨?_, ?_, fun z => absurd eK z, fun z => ?_⟩, (FTc.u _ (by decide)).tr (FTc.u _ (by decide))⟩
          · rw [eK, u2_ne2 _ _ (Or.inr (by decide)), u2_s]; rfl
          · rw [u2_ne2 _ _ (Or.inr (by decide)), u2_ne2 _ _ (Or.inr (by decide)), h6]
          · rw [eK] at z; exact absurd z (by decide)
  · have y1 : mi 4 4 ≤ mi 4 6 := by rw [T.1, h6, nI_leI (by omega) (by omega)]; omega
    have n1 : ¬ mi 4 6 < mi 4 4 := by rw [T.1, h6, nI_ltI (by omega) (by omega)]; omega
    have eK : tkK t e a = 1 := by unfold tkK; rw [if_pos (by omega)]
    have eB : tkB t e a = e := by unfold tkB; rw [if_pos (by omega)]
    refine ⟨u2 (u2 mi 4 5 (nI 0)) 4 7 (mi 4 4), g_rd_next_8 ⟨fun _ => ⟨_, r1, _, r2, fun z => absurd z n1, fun _ => ⟨rfl, rfl, rfl⟩⟩, fun z => absurd y1 z⟩, ⟨?_, ?_, fun _ => ?_, fun z => ?_⟩, (FTc.u _ (by decide)).tr (FTc.u _ (by decide))⟩
    · rw [eK, u2_ne2 _ _ (Or.inr (by decide)), u2_s]; rfl
    · rw [u2_ne2 _ _ (Or.inr (by decide)), u2_ne2 _ _ (Or.inr (by decide)), h6]
    · rw [u2_s, T.1, eB]
    · rw [eK] at z; exact absurd z (by decide)
theorem R_rdnext (T : TC t e mi) (he : e ≤ 800) (ht : ∀ k, t k ≤ 255) (h7 : mi 4 7 = nI p) (hp : p ≤ e) :
    ∃ m', Ret m_rd_next [vR 12 0 4] none c (MRc nb db (some (0, 800, 3)) rs) mi ml m' ml ∧ KC t e (tkA t e p) m' ∧ FTc mi m' := by
  have go : ∀ n q, e - q = n → q ≤ e → ∀ m : MI, TC t e m → m 4 6 = nI q → ∃ m', Go m_rd_next 8 [some (vR 12 0 4), none, none] [] none c (MRc nb db (some (0, 800, 3)) rs) m ml m' ml ∧ KC t e (tto (gBl t) e q) m' ∧ FTc m m' := by
    intro n
    induction n with
    | zero =>
      intro q hn hq m Tm h6
      rw [tto_end (show e ≤ q by omega)]
      exact R_tok Tm he ht h6 hq (fun h => absurd h (by omega))
    | succ n ih =>
      intro q hn hq m Tm h6
      have hqe : q < e := by omega
      by_cases g : gBl t q = true
      · rw [tto_go hqe g]
        have F1 : FTc m (u2 m 4 6 (m 4 6 + nI 1)) := FTc.u _ (by decide)
        obtain ⟨m', h1, h2, h3⟩ := ih (q + 1) (by omega) (by omega) (u2 m 4 6 (m 4 6 + nI 1)) (Tm.fr F1) (by rw [u2_s, inc h6])
        have n1 : ¬ m 4 4 ≤ m 4 6 := by rw [Tm.1, h6, nI_leI (by omega) (by omega)]; omega
        have e32 : m 3 (m 4 6).toNatClampNeg = nI 32 := by rw [cln h6 (by omega), Tm.2 q hqe, (gBl_i t q).mp g]
        exact ⟨m', g_rd_next_8 ⟨fun z => absurd z n1, fun _ => ⟨ixn h6 (by omega) (by decide), fun z => absurd e32 z, fun _ => h1⟩⟩, h2, F1.tr h3⟩
      · rw [tto_no g]
        exact R_tok Tm he ht h6 hq (fun _ z => g ((gBl_i t q).mpr z))
  have F0 : FTc mi (u2 mi 4 6 (mi 4 7)) := FTc.u _ (by decide)
  obtain ⟨m', h1, h2, h3⟩ := go (e - p) p rfl hp (u2 mi 4 6 (mi 4 7)) (T.fr F0) (by rw [u2_s]; exact h7)
  exact ⟨m', g_rd_next_0 h1, h2, F0.tr h3⟩
end
