/-! ===== masks: the reference lays all its rows ===== -/
def AgM (mj m : MI) : Prop := (∀ a, a ≠ 48 → a ≠ 64 → m a = mj a) ∧ ∀ k, k ≠ 51 → k ≠ 52 → m 48 k = mj 48 k
/-- the mask, less what so many rows ahead tell of it -/
def PP (v : Nat → Int) (vs : List (Nat → Int)) (ps : List Nat) (t c : Nat) : Int := SS vs ps * v c - sumZ (fun t' => v (PT ps t') * XX vs ps t' c) t
theorem PP_s (v : Nat → Int) (vs : List (Nat → Int)) (ps : List Nat) (t c : Nat) : PP v vs ps (t + 1) c = PP v vs ps t c - v (PT ps t) * XX vs ps t c := by
  show SS vs ps * v c - (sumZ (fun t' => v (PT ps t') * XX vs ps t' c) t + v (PT ps t) * XX vs ps t c) = _
  unfold PP; omega
theorem PP_0 (v : Nat → Int) (vs : List (Nat → Int)) (ps : List Nat) (c : Nat) : PP v vs ps 0 c = SS vs ps * v c := by
  show SS vs ps * v c - 0 = _
  omega
theorem PP_n (v : Nat → Int) (vs : List (Nat → Int)) (ps : List Nat) (c : Nat) : PP v vs ps ps.length c = NW v vs ps c := (NW_eq v vs ps c).symm
theorem PP_at (v : Nat → Int) {vs : List (Nat → Int)} {ps : List Nat} {t : Nat} (ht : t < ps.length) : PP v vs ps t (PT ps t) = SS vs ps * v (PT ps t) := by
  unfold PP
  rw [sumZ_c0 _ t (fun i hi => by
    show v (PT ps i) * XX vs ps i (PT ps t) = 0
    rw [XX_other (by omega) ht (by omega), Int.mul_zero])]
  omega
theorem PT_mem {ps : List Nat} {t : Nat} (ht : t < ps.length) : PT ps t ∈ ps := by
  unfold PT
  rw [List.getD_eq_getElem?_getD, List.getElem?_eq_getElem (show ps.length - 1 - t < ps.length by omega)]
  exact List.getElem_mem _
theorem PP_bd {v : Nat → Int} {vs : List (Nat → Int)} {ps : List Nat} (hl : ps.length = vs.length) (hR : ps.length ≤ 11) (hps : ∀ q ∈ ps, q < 31) (hv : okR (v :: vs)) (c : Nat) : ∀ t, t ≤ ps.length → (PP v vs ps t c).natAbs ≤ (t + 1) * (1247400 * wt43 c)
  | 0, _ => by
    have hvs : okR vs := fun u hu => hv u (List.mem_cons_of_mem _ hu)
    have s1 := SS_bd hvs (fun q hq => by have := hps q hq; omega) hl
    have b11 := bb_11 vs.length (by omega)
    have h1 := hv v List.mem_cons_self c
    have s0 : 0 ≤ SS vs ps := by unfold SS; omega
    rw [PP_0, Int.natAbs_mul, Nat.zero_add, Nat.one_mul]
    exact Nat.mul_le_mul (by omega) (by omega)
  | t + 1, h => by
    have hvs : okR vs := fun u hu => hv u (List.mem_cons_of_mem _ hu)
    have b11 := bb_11 vs.length (by omega)
    have ih := PP_bd hl hR hps hv c t (by omega)
    have x1 := XX_bd hvs (fun q hq => by have := hps q hq; omega) hl (show t < ps.length by omega) c
    have h1 := hv v List.mem_cons_self (PT ps t)
    have h2 := hps _ (PT_mem (show t < ps.length by omega))
    rw [wt_lo (by omega)] at h1
    have h3 : (v (PT ps t) * XX vs ps t c).natAbs ≤ 1247400 * wt43 c := by
      rw [Int.natAbs_mul]
      have : (v (PT ps t)).natAbs ≤ 1 := by omega
      calc (v (PT ps t)).natAbs * (XX vs ps t c).natAbs ≤ 1 * (bb vs.length * wt43 c) := Nat.mul_le_mul this x1
        _ = bb vs.length * wt43 c := Nat.one_mul _
        _ ≤ 1247400 * wt43 c := Nat.mul_le_mul_right _ b11
    rw [PP_s, Nat.succ_mul]
    omega
theorem RW.cg {l : ML} {R : Nat} {F G : Nat → Int} {S : Int} (h : RW l R F S) (e : ∀ k, k < 44 → F k = G k) : RW l R G S := fun k hk => by
  rw [← e k hk]; exact h k hk
def agB (μ : Nat → Nat) (T : Nat → Int) : Nat → Bool
  | 0 => true
  | q + 1 => match pvO μ T q with
    | some _ => agB μ T q
    | none => agB μ T q && decide (NW (vm μ T q) (vsS μ T q) (psS μ T q) 43 = 0)
theorem agB_s {μ : Nat → Nat} {T : Nat → Int} {q p : Nat} (h : pvO μ T q = some p) : agB μ T (q + 1) = agB μ T q := by
  show (match pvO μ T q with | some _ => agB μ T q | none => agB μ T q && decide (NW (vm μ T q) (vsS μ T q) (psS μ T q) 43 = 0)) = _
  rw [h]
theorem agB_n {μ : Nat → Nat} {T : Nat → Int} {q : Nat} (h : pvO μ T q = none) : agB μ T (q + 1) = (agB μ T q && decide (NW (vm μ T q) (vsS μ T q) (psS μ T q) 43 = 0)) := by
  show (match pvO μ T q with | some _ => agB μ T q | none => agB μ T q && decide (NW (vm μ T q) (vsS μ T q) (psS μ T q) 43 = 0)) = _
  rw [h]
def bI (b : Bool) : Int32 := if b = true then nI 1 else nI 0
section
variable {nb db b : Nat} {by_ rs : RX} {c : Nat} {mi mj m : MI} {ml mk : ML} {K : Nat} {μ : Nat → Nat} {T : Nat → Int}
theorem FI_row (hμ : ∀ q, q < K → μ q < 2 ^ 31) (hK : K ≤ 12) (hT : ∀ i, i < K → 0 ≤ T i ∧ T i ≤ 309969) (hm : ∀ q, q < K → m 51 q = nI (μ q)) (TH : ∀ (l : ML) (i : Nat), i < K → Ret m_r_through [vR 19 0 48, vI (nI (μ i))] (some (vI (zI (T i)))) c (MRc nb db by_ rs) m l m l) {R : Nat} (hR : R < 12) (h51 : m 48 51 = nI R) {q : Nat} (hq : q < K) {x : Int32} (hx : x = nI q) {S : Int} (hS : 0 < S) :
    ∀ j, j ≤ 44 → ∀ (i : Int32) (l : ML), i = nI j → (∀ k, k < j → l 62 (44 * R + k) = zL (lU (S * vm μ T q (cc k)) S) ∧ l 63 (44 * R + k) = zL (lL (S * vm μ T q (cc k)) S)) →
    ∃ l2 : ML, (∀ rv mi' ml', Go m_r_laysRows 101 [some (vR 19 0 48), some (vI x), some (vI (nI 0))] [] rv c (MRc nb db by_ rs) m l2 mi' ml' → Go m_r_laysRows 22 [some (vR 19 0 48), some (vI x), some (vI i)] [] rv c (MRc nb db by_ rs) m l mi' ml') ∧ RW l2 R (fun k => S * vm μ T q (cc k)) S ∧ (∀ t, t < 44 * R ∨ 44 * R + 44 ≤ t → l2 62 t = l 62 t ∧ l2 63 t = l 63 t) ∧ ∀ a, a ≠ 48 → a ≠ 62 → a ≠ 63 → l2 a = l a := by
  refine upto ?_ ?_
  · intro i l hi h1
    exact ⟨l, fun rv mi' ml' G => g_r_laysRows_22 ⟨fun _ => G, fun g => absurd (by rw [hi]; exact Int32.le_refl _) g⟩, fun k hk => h1 k hk, fun _ _ => ⟨rfl, rfl⟩, fun _ _ _ _ => rfl⟩
  · intro j hj ih i l hi h1
    have hng : ¬ nI 44 ≤ i := by rw [hi, nI_leN (by decide) (by omega)]; omega
    have hmq := hm q hq
    have step : ∀ (val : Int) (w : Int64), val = vm μ T q (cc j) → w = zL val → ∃ l2 : ML, (∃ l1 : ML, Ret m_r_puts [vR 19 0 48, vI (m 48 51), vI i, vL w, vL (lN 1)] none c (MRc nb db by_ rs) m l m l1 ∧ ∀ rv mi' ml', Go m_r_laysRows 101 [some (vR 19 0 48), some (vI x), some (vI (nI 0))] [] rv c (MRc nb db by_ rs) m l2 mi' ml' → Go m_r_laysRows 22 [some (vR 19 0 48), some (vI x), some (vI (i + nI 1))] [] rv c (MRc nb db by_ rs) m l1 mi' ml') ∧ RW l2 R (fun k => S * vm μ T q (cc k)) S ∧ (∀ t, t < 44 * R ∨ 44 * R + 44 ≤ t → l2 62 t = l 62 t ∧ l2 63 t = l 63 t) ∧ ∀ a, a ≠ 48 → a ≠ 62 → a ≠ 63 → l2 a = l a := by
      intro val w hval hw
      have hvb := vm_bd (μ := μ) (T := T) (i := q) (hT q hq) (cc j)
      have hwl := (wt_le (cc j)).2
      have hsame := lw_eq (u := val) (d := 1) (x := S * vm μ T q (cc j)) (s := S) (by decide) hS (by rw [hval]; grind)
      obtain ⟨l2, q1, q2, q3, q4⟩ := ih (i + nI 1) (putL l (44 * R + j) (lU val 1) (lL val 1)) (inc hi) (fun k hk => by
        rw [putL_62, putL_63]
        by_cases e : k = j
        · rw [e, if_pos rfl, if_pos rfl, hsame.1, hsame.2]; exact ⟨rfl, rfl⟩
        · rw [if_neg (show ¬ 44 * R + k = 44 * R + j by omega), if_neg (show ¬ 44 * R + k = 44 * R + j by omega)]
          exact h1 k (by omega))
      refine ⟨l2, ⟨_, R_puts hR hj h51 hi (u := val) (d := 1) (by rw [hval]; omega) (by decide) hw rfl, q1⟩, q2, fun t ht => ?_, fun a a1 a2 a3 => ?_⟩
      · have := q3 t ht
        rw [putL_62, putL_63, if_neg (show ¬ t = 44 * R + j by omega), if_neg (show ¬ t = 44 * R + j by omega)] at this
        exact this
      · rw [q4 a a1 a2 a3, putL_o _ _ _ _ a1 a2 a3]
    have vq : vp_in x 12 := ixn hx (by omega) (by decide)
    have cq' : x.toNatClampNeg = q := cln hx (by omega)
    by_cases h31 : j = 31
    · have ei : i = nI 31 := by rw [hi, h31]
      obtain ⟨l2, ⟨l1, z1, z2⟩, z3⟩ := step (T q) ((zI (T q)).toInt64) (by rw [h31, cc_31]; rfl) (zI_l (by have := hT q hq; omega))
      refine ⟨l2, fun rv mi' ml' G => g_r_laysRows_22 ⟨fun g => absurd g hng, fun _ => ⟨fun g => absurd ei g, fun _ => ⟨vq, zI (T q), ?_, _, _, z1, z2 rv mi' ml' G⟩⟩⟩, z3⟩
      rw [cq', hmq]; exact TH l q hq
    · have ni : ¬ i = nI 31 := by rw [hi, nI_eq (by omega) (by decide)]; exact h31
      by_cases hlo : j < 31
      · have n31 : ¬ nI 31 ≤ i := by rw [hi, nI_leN (by decide) (by omega)]; omega
        have ev : vm μ T q (cc j) = (bt (μ q) j : Int) := by rw [cc_lo hlo]; unfold vm; rw [if_pos hlo]
        have hh : Ret m_r_has [vI (m 51 x.toNatClampNeg), vI i] (some (vI (nI (bt (μ q) j)))) c (MRc nb db by_ rs) m l m l := R_has (by rw [cq', hmq]) hi (hμ q hq) (by omega)
        rcases bt_01 (μ q) j with hb | hb
        · obtain ⟨l2, ⟨l1, z1, z2⟩, z3⟩ := step 0 (lN 0) (by rw [ev, hb]; rfl) rfl
          exact ⟨l2, fun rv mi' ml' G => g_r_laysRows_22 ⟨fun g => absurd g hng, fun _ => ⟨fun _ => ⟨fun g => absurd g n31, fun _ => ⟨vq, _, hh, fun _ => ⟨_, _, z1, z2 rv mi' ml' G⟩, fun g => absurd (by rw [hb]; rfl) g⟩⟩, fun g => absurd g ni⟩⟩, z3⟩
        · obtain ⟨l2, ⟨l1, z1, z2⟩, z3⟩ := step 1 (lN 1) (by rw [ev, hb]; rfl) rfl
          exact ⟨l2, fun rv mi' ml' G => g_r_laysRows_22 ⟨fun g => absurd g hng, fun _ => ⟨fun _ => ⟨fun g => absurd g n31, fun _ => ⟨vq, _, hh, fun g => absurd g (by rw [hb]; decide), fun _ => ⟨_, _, z1, z2 rv mi' ml' G⟩⟩⟩, fun g => absurd g ni⟩⟩, z3⟩
      · have y31 : nI 31 ≤ i := by rw [hi, nI_leN (by decide) (by omega)]; omega
        have ev : vm μ T q (cc j) = if j - 1 = 31 + q then 1 else 0 := by
          rw [cc_hi (by omega)]; unfold vm; rw [if_neg (by omega), if_pos (by omega)]
        have e32 : nI 32 + x = nI (32 + q) := by rw [hx, nI_add]
        by_cases hj2 : j = 32 + q
        · obtain ⟨l2, ⟨l1, z1, z2⟩, z3⟩ := step 1 (lN 1) (by rw [ev, if_pos (by omega)]) rfl
          exact ⟨l2, fun rv mi' ml' G => g_r_laysRows_22 ⟨fun g => absurd g hng, fun _ => ⟨fun _ => ⟨fun _ => ⟨fun g => absurd (by rw [hi, e32, hj2]) g, fun _ => ⟨_, _, z1, z2 rv mi' ml' G⟩⟩, fun g => absurd y31 g⟩, fun g => absurd g ni⟩⟩, z3⟩
        · obtain ⟨l2, ⟨l1, z1, z2⟩, z3⟩ := step 0 (lN 0) (by rw [ev, if_neg (by omega)]) rfl
          have hne : ¬ i = nI 32 + x := by rw [hi, e32, nI_eq (by omega) (by omega)]; exact hj2
          exact ⟨l2, fun rv mi' ml' G => g_r_laysRows_22 ⟨fun g => absurd g hng, fun _ => ⟨fun _ => ⟨fun _ => ⟨fun _ => ⟨_, _, z1, z2 rv mi' ml' G⟩, fun g => absurd g hne⟩, fun g => absurd y31 g⟩, fun g => absurd g ni⟩⟩, z3⟩
theorem RD_row {vs : List (Nat → Int)} {ps : List Nat} {v : Nat → Int} (hP : Piv vs ps) (hl : ps.length = vs.length) (hR : ps.length < 12) (hps : ∀ q ∈ ps, q < 31) (hv : okR (v :: vs)) (h51 : m 48 51 = nI ps.length) (h64 : ∀ t, t < ps.length → m 64 t = nI (PT ps t)) {x : Int32} :
    ∀ t, t ≤ ps.length → ∀ (i : Int32) (l : ML), i = nI t → RW l ps.length (fun k => PP v vs ps t (cc k)) (SS vs ps) → (∀ u, u < ps.length → RW l u (fun k => XX vs ps u (cc k)) (SS vs ps)) →
    ∃ l2 : ML, (∀ rv mi' ml', Go m_r_laysRows 132 [some (vR 19 0 48), some (vI x), some (vI (nI 0))] [] rv c (MRc nb db by_ rs) m l2 mi' ml' → Go m_r_laysRows 101 [some (vR 19 0 48), some (vI x), some (vI i)] [] rv c (MRc nb db by_ rs) m l mi' ml') ∧ RW l2 ps.length (fun k => NW v vs ps (cc k)) (SS vs ps) ∧ (∀ u, u < ps.length → RW l2 u (fun k => XX vs ps u (cc k)) (SS vs ps)) ∧ ∀ a, a ≠ 48 → a ≠ 62 → a ≠ 63 → l2 a = l a := by
  have h0 := Piv_ne hP
  have hvs : okR vs := fun u hu => hv u (List.mem_cons_of_mem _ hu)
  have hps43 : ∀ q ∈ ps, q < 43 := fun q hq => by have := hps q hq; omega
  have b11 := bb_11 vs.length (by omega)
  have s1 := SS_bd hvs hps43 hl
  have p1 := SS_pos h0
  refine upto ?_ ?_
  · intro i l hi h1 h2
    exact ⟨l, fun rv mi' ml' G => g_r_laysRows_101 ⟨fun _ => G, fun g => absurd (by rw [h51, hi]; exact Int32.le_refl _) g⟩, h1.cg (fun k _ => PP_n v vs ps (cc k)), h2, fun _ _ _ _ => rfl⟩
  · intro t ht ih i l hi h1 h2
    have hpt := hps _ (PT_mem ht)
    have ct : i.toNatClampNeg = t := cln hi (by omega)
    have ecp : cc (PT ps t) = PT ps t := cc_lo hpt
    have pb : ∀ k, (PP v vs ps t (cc k)).natAbs ≤ 14968800 * wt43 (cc k) := fun k => by
      have h3 := PP_bd hl (by omega) hps hv (cc k) t (by omega)
      calc (PP v vs ps t (cc k)).natAbs ≤ (t + 1) * (1247400 * wt43 (cc k)) := h3
        _ ≤ 12 * (1247400 * wt43 (cc k)) := Nat.mul_le_mul_right _ (by omega)
        _ = 14968800 * wt43 (cc k) := by rw [← Nat.mul_assoc]
    have xb1 : ∀ k, (XX vs ps t (cc k)).natAbs ≤ 1247400 * wt43 (cc k) := fun k => Nat.le_trans (XX_bd hvs hps43 hl ht (cc k)) (Nat.mul_le_mul_right _ b11)
    have hv1 := hv v List.mem_cons_self (PT ps t)
    rw [wt_lo (by omega)] at hv1
    have pc : PP v vs ps t (cc (PT ps t)) = SS vs ps * v (PT ps t) := by rw [ecp]; exact PP_at v ht
    have pcb : (PP v vs ps t (cc (PT ps t))).natAbs ≤ 1247400 := by
      rw [pc, Int.natAbs_mul]
      calc (SS vs ps).natAbs * (v (PT ps t)).natAbs ≤ 1247400 * 1 := Nat.mul_le_mul (by omega) (by omega)
        _ = 1247400 := rfl
    obtain ⟨l1, q1, q2, q3, q4⟩ := R_clears (nb := nb) (db := db) (by_ := by_) (rs := rs) (c := c) (mi := m) (ml := l) (r := ps.length) (w := t) (col := PT ps t) (F1 := fun k => PP v vs ps t (cc k)) (F2 := fun k => XX vs ps t (cc k)) (F' := fun k => PP v vs ps (t + 1) (cc k)) (S1 := SS vs ps) (S2 := SS vs ps) (S' := SS vs ps) hR (by omega) (by omega) (by omega) p1 p1 p1
      (by
        have : SS vs ps * SS vs ps ≤ 1247400 * 1247400 := Int.mul_le_mul (by omega) (by omega) (Int.le_of_lt p1) (by decide)
        omega)
      (by
        show (PP v vs ps t (cc (PT ps t))).natAbs < _
        omega)
      (fun k hk => by
        show (XX vs ps t (cc k)).natAbs < _
        have h1 := xb1 k
        have h2 := (wt_le (cc k)).2
        have : 1247400 * wt43 (cc k) ≤ 1247400 * 309969 := Nat.mul_le_mul_left _ h2
        omega)
      (fun k hk => by
        show (PP v vs ps t (cc k)).natAbs * (SS vs ps).natAbs + (PP v vs ps t (cc (PT ps t))).natAbs * (XX vs ps t (cc k)).natAbs < _
        have h3 := m3 (A := 14968800) (W := 309969) (B := 1247400) (N := 5787766312685280000) (pb k) (show (SS vs ps).natAbs ≤ 1247400 by omega) (wt_le (cc k)).2 (by decide)
        have h4 := m3 (A := 1247400) (W := 309969) (B := 1247400) (N := 482313859390440000) (xb1 k) pcb (wt_le (cc k)).2 (by decide)
        rw [Nat.mul_comm] at h4
        omega)
      (fun k hk => by
        show PP v vs ps (t + 1) (cc k) * (SS vs ps * SS vs ps) = SS vs ps * (PP v vs ps t (cc k) * SS vs ps - PP v vs ps t (cc (PT ps t)) * XX vs ps t (cc k))
        rw [pc, PP_s]
        grind)
      h51 hi (h64 t ht) h1 (h2 t ht)
    have A2 : ∀ u, u < ps.length → RW l1 u (fun k => XX vs ps u (cc k)) (SS vs ps) := fun u hu k hk => by
      have := q3 (44 * u + k) (by omega)
      rw [this.1, this.2]; exact h2 u hu k hk
    obtain ⟨l2, y1, y2, y3, y4⟩ := ih (i + nI 1) l1 (inc hi) q2 A2
    refine ⟨l2, fun rv mi' ml' G => g_r_laysRows_101 ⟨fun g => absurd g (by rw [h51]; exact lp_g rfl hi ht (by omega)), fun _ => ⟨ixn hi (by omega) (by decide), _, _, ?_, y1 rv mi' ml' G⟩⟩, y2, y3, fun a a1 a2 a3 => by rw [y4 a a1 a2 a3, q4 a a1 a2 a3]⟩
    rw [ct]; exact q1
end
