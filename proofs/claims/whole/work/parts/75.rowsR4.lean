/-! ===== masks: the reference's rows, all of them ===== -/
section
variable {nb db b : Nat} {by_ rs : RX} {c : Nat} {mi mj m : MI} {ml mk : ML} {K : Nat} {μ : Nat → Nat} {T : Nat → Int}
theorem ups_0 {l : ML} {R k : Nat} {F : Nat → Int} {S : Int} (hS : 0 < S) (h : RW l R F S) (hk : k < 44) (hb : (F k).natAbs < 9223372036854775808) : l 62 (44 * R + k) = lN 0 ↔ F k = 0 := by
  rw [(h k hk).1, lN_z]
  have := lU_le (x := F k) hS
  rw [zL_eq (lR63 (by omega)) (by decide)]
  exact lU_0 hS
theorem bI_0 {b : Bool} : bI b = 0 ↔ b = false := by cases b <;> decide
theorem PV_n {vs : List (Nat → Int)} {ps : List Nat} {v : Nat → Int} (hR : ps.length < 12) (hS : 0 < SS vs ps) (h51 : m 48 51 = nI ps.length) {l : ML} (hN : RW l ps.length (fun k => NW v vs ps (cc k)) (SS vs ps)) (hB : ∀ k, k < 44 → (NW v vs ps (cc k)).natAbs < 9223372036854775808) (hz : ∀ k, k < 31 → NW v vs ps k = 0) {x : Int32} {g0 g1 : Bool} (h52 : m 48 52 = bI g0) (hg : g1 = (g0 && decide (NW v vs ps 43 = 0))) {rv : Option AV} {mi' : MI} {ml' : ML}
    (G : Go m_r_laysRows 12 [some (vR 19 0 48), some (vI (x + nI 1)), none] [] rv c (MRc nb db by_ rs) (u2 m 48 52 (bI g1)) l mi' ml') :
    ∀ j, j ≤ 31 → ∀ (i : Int32), i = nI j → Go m_r_laysRows 132 [some (vR 19 0 48), some (vI x), some (vI i)] [] rv c (MRc nb db by_ rs) m l mi' ml' := by
  have i1 := i44 h51 (show nI 31 = nI 31 from rfl)
  have c1 : (nI 44 * m 48 51 + nI 31).toNatClampNeg = 44 * ps.length + 31 := cln i1 (by omega)
  refine upto ?_ ?_
  · intro i hi
    refine g_r_laysRows_132 ⟨fun _ => ⟨fun g => absurd hi g, fun _ => ⟨fun g => ?_, fun g => ⟨ixn i1 (by omega) (by decide), fun g2 => ?_, fun g2 => ?_⟩⟩⟩, fun g => absurd (by rw [hi]; exact Int32.le_refl _) g⟩
    · rw [h52, bI_0] at g
      rw [hg, g] at G; exact G
    · rw [c1, ups_0 hS hN (by decide) (hB 31 (by decide))] at g2
      have g2 : ¬ NW v vs ps 43 = 0 := g2
      rw [hg, decide_eq_false g2, Bool.and_false] at G; exact G
    · rw [c1, ups_0 hS hN (by decide) (hB 31 (by decide))] at g2
      have g2 : NW v vs ps 43 = 0 := g2
      have g3 : g0 = true := by
        cases h : g0 with
        | true => rfl
        | false => exact absurd (by rw [h52, h]; rfl) g
      rw [hg, decide_eq_true g2, g3] at G; exact G
  · intro j hj ih i hi
    have i2 := i44 h51 hi
    have c2 : (nI 44 * m 48 51 + i).toNatClampNeg = 44 * ps.length + j := cln i2 (by omega)
    have z : l 62 (nI 44 * m 48 51 + i).toNatClampNeg = lN 0 := by
      rw [c2, ups_0 hS hN (by omega) (hB j (by omega))]
      show NW v vs ps (cc j) = 0
      rw [cc_lo hj]; exact hz j hj
    exact g_r_laysRows_132 ⟨fun g => absurd g (by rw [hi, nI_leN (by decide) (by omega)]; omega), fun _ => ⟨ixn i2 (by omega) (by decide), fun g => absurd z g, fun _ => ih _ (inc hi)⟩⟩
theorem PV_s {vs : List (Nat → Int)} {ps : List Nat} {v : Nat → Int} (hR : ps.length < 12) (hS : 0 < SS vs ps) (h51 : m 48 51 = nI ps.length) {l : ML} (hN : RW l ps.length (fun k => NW v vs ps (cc k)) (SS vs ps)) (hB : ∀ k, k < 44 → (NW v vs ps (cc k)).natAbs < 9223372036854775808) {p : Nat} (hp : p < 31) (hz : ∀ k, k < p → NW v vs ps k = 0) (hne : NW v vs ps p ≠ 0) {x : Int32} {m1 : MI} {l1 : ML} (L : ∀ y, y = nI p → Ret m_r_laysRow [vR 19 0 48, vI y] none c (MRc nb db by_ rs) m l m1 l1) {rv : Option AV} {mi' : MI} {ml' : ML}
    (G : Go m_r_laysRows 12 [some (vR 19 0 48), some (vI (x + nI 1)), none] [] rv c (MRc nb db by_ rs) m1 l1 mi' ml') :
    ∀ j, j ≤ p → ∀ (i : Int32), i = nI j → Go m_r_laysRows 132 [some (vR 19 0 48), some (vI x), some (vI i)] [] rv c (MRc nb db by_ rs) m l mi' ml' := by
  refine upto ?_ ?_
  · intro i hi
    have i2 := i44 h51 hi
    have c2 : (nI 44 * m 48 51 + i).toNatClampNeg = 44 * ps.length + p := cln i2 (by omega)
    have z : ¬ l 62 (nI 44 * m 48 51 + i).toNatClampNeg = lN 0 := by
      rw [c2, ups_0 hS hN (by omega) (hB p (by omega))]
      show ¬ NW v vs ps (cc p) = 0
      rw [cc_lo hp]; exact hne
    have n31 : ¬ i = nI 31 := by rw [hi, nI_eq (by omega) (by decide)]; omega
    exact g_r_laysRows_132 ⟨fun g => absurd g (by rw [hi, nI_leN (by decide) (by omega)]; omega), fun _ => ⟨ixn i2 (by omega) (by decide), fun _ => ⟨fun _ => ⟨_, _, L i hi, G⟩, fun g => absurd g n31⟩, fun g => absurd g z⟩⟩
  · intro j hj ih i hi
    have i2 := i44 h51 hi
    have c2 : (nI 44 * m 48 51 + i).toNatClampNeg = 44 * ps.length + j := cln i2 (by omega)
    have z : l 62 (nI 44 * m 48 51 + i).toNatClampNeg = lN 0 := by
      rw [c2, ups_0 hS hN (by omega) (hB j (by omega))]
      show NW v vs ps (cc j) = 0
      rw [cc_lo (by omega)]; exact hz j hj
    exact g_r_laysRows_132 ⟨fun g => absurd g (by rw [hi, nI_leN (by decide) (by omega)]; omega), fun _ => ⟨ixn i2 (by omega) (by decide), fun g => absurd z g, fun _ => ih _ (inc hi)⟩⟩
theorem AgM.up1 (h : AgM mj m) (v : Int32) : AgM mj (u2 m 48 52 v) := ⟨fun a a1 a2 => by rw [u2_o _ _ a1]; exact h.1 a a1 a2, fun k k1 k2 => by rw [u2_ne2 _ _ (Or.inr k2)]; exact h.2 k k1 k2⟩
theorem AgM.up2 (h : AgM mj m) (i : Nat) (v w : Int32) : AgM mj (u2 (u2 m 64 i v) 48 51 w) := ⟨fun a a1 a2 => by rw [u2_o _ _ a1, u2_o _ _ a2]; exact h.1 a a1 a2, fun k k1 k2 => by rw [u2_ne2 _ _ (Or.inr k1), u2_o _ _ (by decide)]; exact h.2 k k1 k2⟩
/-- what laysRows leaves -/
def RLm (μ : Nat → Nat) (T : Nat → Int) (q : Nat) (mj m : MI) (l : ML) : Prop := RSm (vsS μ T q) (psS μ T q) m l ∧ m 48 52 = bI (agB μ T q) ∧ AgM mj m
theorem LS_all (hμ : ∀ q, q < K → μ q < 2 ^ 31) (hK : K ≤ 12) (hT : ∀ i, i < K → 0 ≤ T i ∧ T i ≤ 309969) (hmj : RT K μ mj) (TH : ∀ (m : MI) (l : ML), AgM mj m → ∀ i, i < K → Ret m_r_through [vR 19 0 48, vI (nI (μ i))] (some (vI (zI (T i)))) c (MRc nb db by_ rs) m l m l) :
    ∀ q, q ≤ K → ∀ (x : Int32) (m : MI) (l : ML), x = nI q → RLm μ T q mj m l → ∃ (m' : MI) (l' : ML), Go m_r_laysRows 12 [some (vR 19 0 48), some (vI x), none] [] none c (MRc nb db by_ rs) m l m' l' ∧ RLm μ T K mj m' l' ∧ ∀ a, a ≠ 48 → a ≠ 62 → a ≠ 63 → l' a = l a := by
  refine upto ?_ ?_
  · intro x m l hx H
    exact ⟨m, l, g_r_laysRows_12 ⟨fun _ => ⟨rfl, rfl, rfl⟩, fun g => absurd (by rw [H.2.2.2 9 (by decide) (by decide), hmj.1, hx]; exact Int32.le_refl _) g⟩, H, fun _ _ _ _ => rfl⟩
  · intro q hq ih x m l hx H
    obtain ⟨⟨H1, H2, H3⟩, H4, H5⟩ := H
    obtain ⟨o1, o2, o3, o4, -⟩ := mS_ok μ T q
    have hR : (psS μ T q).length < 12 := by omega
    have hv : okR (vm μ T q :: vsS μ T q) := fun u hu q' => by
      rcases List.mem_cons.mp hu with e | e
      · rw [e]; exact vm_bd (hT q hq) q'
      · exact vsS_ok hT (show q ≤ K by omega) u e q'
    have h0 := Piv_ne o1
    have hS := SS_pos h0
    have hps43 : ∀ q' ∈ psS μ T q, q' < 43 := fun q' hq' => by have := o4 q' hq'; omega
    have h9 : m 48 9 = nI K := by rw [H5.2 9 (by decide) (by decide)]; exact hmj.1
    have hB : ∀ k, k < 44 → (NW (vm μ T q) (vsS μ T q) (psS μ T q) (cc k)).natAbs < 9223372036854775808 := fun k _ => by
      have h1 := NW_bd hv hps43 o2 (cc k)
      have h2 := bb_12 ((vsS μ T q).length + 1) (by omega)
      have h3 := (wt_le (cc k)).2
      have : bb ((vsS μ T q).length + 1) * wt43 (cc k) ≤ 7484400 * 309969 := Nat.mul_le_mul h2 h3
      omega
    obtain ⟨l1, q1, q2, q3, q4⟩ := FI_row (nb := nb) (db := db) (by_ := by_) (rs := rs) (c := c) (m := m) hμ hK hT (fun q' hq' => by rw [H5.1 51 (by decide) (by decide)]; exact hmj.2 q' hq') (fun l' i hi => TH m l' H5 i hi) hR H1 hq hx hS 0 (by omega) (nI 0) l rfl (fun k hk => by omega)
    have R1 : RW l1 (psS μ T q).length (fun k => PP (vm μ T q) (vsS μ T q) (psS μ T q) 0 (cc k)) (SS (vsS μ T q) (psS μ T q)) := q2.cg (fun k _ => (PP_0 (vm μ T q) (vsS μ T q) (psS μ T q) (cc k)).symm)
    have R2 : ∀ u, u < (psS μ T q).length → RW l1 u (fun k => XX (vsS μ T q) (psS μ T q) u (cc k)) (SS (vsS μ T q) (psS μ T q)) := fun u hu k hk => by
      have := q3 (44 * u + k) (by omega)
      rw [this.1, this.2]; exact H3 u hu k hk
    obtain ⟨l2, r1, r2, r3, r4⟩ := RD_row (nb := nb) (db := db) (by_ := by_) (rs := rs) (c := c) (m := m) (x := x) o1 o2 hR o4 hv H1 H2 0 (by omega) (nI 0) l1 rfl R1 R2
    have fr : ∀ a, a ≠ 48 → a ≠ 62 → a ≠ 63 → l2 a = l a := fun a a1 a2 a3 => by rw [r4 a a1 a2 a3, q4 a a1 a2 a3]
    have ng : ¬ m 48 9 ≤ x := by rw [h9]; exact lp_g rfl hx hq (by omega)
    cases e : pvO μ T q with
    | none =>
      have e0 : fsO (fun c => decide (NW (vm μ T q) (vsS μ T q) (psS μ T q) c ≠ 0)) 31 0 = none := e
      have hz : ∀ k, k < 31 → NW (vm μ T q) (vsS μ T q) (psS μ T q) k = 0 := fun k hk => by
        have := fsO_n 31 0 e0 k (by omega) (by omega)
        exact Classical.byContradiction fun z => absurd z (of_decide_eq_false this)
      have e1 : vsS μ T (q + 1) = vsS μ T q := by unfold vsS; rw [mS_n e]
      have e2 : psS μ T (q + 1) = psS μ T q := by unfold psS; rw [mS_n e]
      obtain ⟨m', l', s1, s2, s3⟩ := ih (x + nI 1) (u2 m 48 52 (bI (agB μ T (q + 1)))) l2 (inc hx) ⟨by
        rw [e1, e2]
        exact ⟨by rw [u2_ne2 _ _ (Or.inr (by decide))]; exact H1, fun t ht => by rw [u2_o _ _ (by decide)]; exact H2 t ht, r3⟩, u2_s _ _ _ _, H5.up1 _⟩
      exact ⟨m', l', g_r_laysRows_12 ⟨fun g => absurd g ng, fun _ => q1 _ _ _ (r1 _ _ _ (PV_n hR hS H1 r2 hB hz H4 (agB_n e) s1 0 (by omega) _ rfl))⟩, s2, fun a a1 a2 a3 => by rw [s3 a a1 a2 a3, fr a a1 a2 a3]⟩
    | some p =>
      have e0 : fsO (fun c => decide (NW (vm μ T q) (vsS μ T q) (psS μ T q) c ≠ 0)) 31 0 = some p := e
      obtain ⟨g1, g2, g3, g4⟩ := fsO_s 31 0 e0
      have hne : NW (vm μ T q) (vsS μ T q) (psS μ T q) p ≠ 0 := of_decide_eq_true g1
      have hz : ∀ k, k < p → NW (vm μ T q) (vsS μ T q) (psS μ T q) k = 0 := fun k hk => by
        have := g4 k (by omega) hk
        exact Classical.byContradiction fun z => absurd z (of_decide_eq_false this)
      have e1 : vsS μ T (q + 1) = vm μ T q :: vsS μ T q := by unfold vsS; rw [mS_s e]; rfl
      have e2 : psS μ T (q + 1) = p :: psS μ T q := by unfold psS; rw [mS_s e]
      obtain ⟨l3, t1, t2, t3⟩ := R_laysRow (nb := nb) (db := db) (by_ := by_) (rs := rs) (c := c) (mi := m) (mk := l2) (x := nI p) o1 o2 hR o4 hv (show p < 31 by omega) hne ⟨H1, H2, r3⟩ r2 rfl
      obtain ⟨m', l', s1, s2, s3⟩ := ih (x + nI 1) _ l3 (inc hx) ⟨by rw [e1, e2]; exact t2, by
        rw [u2_ne2 _ _ (Or.inr (by decide)), u2_o _ _ (by decide), agB_s e]; exact H4, H5.up2 _ _ _⟩
      exact ⟨m', l', g_r_laysRows_12 ⟨fun g => absurd g ng, fun _ => q1 _ _ _ (r1 _ _ _ (PV_s hR hS H1 r2 hB (show p < 31 by omega) hz hne (fun y hy => by rw [hy]; exact t1) s1 0 (by omega) _ rfl))⟩, s2, fun a a1 a2 a3 => by rw [s3 a a1 a2 a3, t3 a a1 a2 a3, fr a a1 a2 a3]⟩
theorem R_laysRows (hμ : ∀ q, q < K → μ q < 2 ^ 31) (hK : K ≤ 12) (hT : ∀ i, i < K → 0 ≤ T i ∧ T i ≤ 309969) (hmj : RT K μ mj) (TH : ∀ (m : MI) (l : ML), AgM mj m → ∀ i, i < K → Ret m_r_through [vR 19 0 48, vI (nI (μ i))] (some (vI (zI (T i)))) c (MRc nb db by_ rs) m l m l) :
    ∃ (m' : MI) (l' : ML), Ret m_r_laysRows [vR 19 0 48] none c (MRc nb db by_ rs) mj mk m' l' ∧ RLm μ T K mj m' l' ∧ ∀ a, a ≠ 48 → a ≠ 62 → a ≠ 63 → l' a = mk a := by
  obtain ⟨m', l', p1, p2, p3⟩ := LS_all (nb := nb) (db := db) (by_ := by_) (rs := rs) (c := c) hμ hK hT hmj TH 0 (by omega) (nI 0) (u2 (u2 mj 48 51 (nI 0)) 48 52 (nI 1)) mk rfl ⟨⟨by rw [u2_ne2 _ _ (Or.inr (by decide)), u2_s]; rfl, fun t ht => absurd ht (Nat.not_lt_zero t), fun t ht => absurd ht (Nat.not_lt_zero t)⟩, u2_s _ _ _ _, ⟨fun a a1 a2 => by rw [u2_o _ _ a1, u2_o _ _ a1], fun k k1 k2 => by rw [u2_ne2 _ _ (Or.inr k2), u2_ne2 _ _ (Or.inr k1)]⟩⟩
  exact ⟨m', l', g_r_laysRows_0 p1, p2, p3⟩
end
