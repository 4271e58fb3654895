/-! ===== masks: squares; what a call needs ===== -/
def muS (σ : SG) (i : Nat) : Nat := (σ 4 i).toNat
def kS (σ : SG) : Nat := (σ 0 9).toNat
def thT (σ : SG) (i : Nat) : Int := thr σ (muS σ i)
/-- the class's table of masks, if there is a bench -/
def RCm (σ : SG) (mi : MI) (ml : ML) : Prop := σ 0 0 = 1 → CTb (muS σ) (kS σ) mi ml
theorem kS_12 {σ : SG} (hW : WF σ) : kS σ ≤ 12 := by have := hW.ms; unfold kS; omega
theorem WF.mk {σ : SG} (hW : WF σ) {q : Nat} (hq : q < kS σ) : 0 < σ 4 q ∧ σ 4 q < 2 ^ (σ 0 5).toNat := by
  have hms := hW.ms
  exact hW.2.2.2.2.2.2.2.2.2.2.2.2.1 q (by unfold kS at hq; omega)
theorem muS_lt {σ : SG} (hW : WF σ) : ∀ q, q < kS σ → muS σ q < 2 ^ (σ 0 5).toNat := fun q hq => by
  have h := hW.mk hq
  rw [p2Z] at h
  unfold muS; omega
theorem muS_31 {σ : SG} (hW : WF σ) : ∀ q, q < kS σ → muS σ q < 2 ^ 31 := fun q hq => Nat.lt_of_lt_of_le (muS_lt hW q hq) (p31 (by have := hW.nn; omega))
theorem muS_z {σ : SG} (hW : WF σ) {q : Nat} (hq : q < kS σ) : zI (σ 4 q) = nI (muS σ q) := by
  have h := hW.mk hq
  unfold muS; exact z_nat (by omega)
theorem thT_bd {σ : SG} (hW : WF σ) : ∀ i, i < kS σ → 0 ≤ thT σ i ∧ thT σ i ≤ 309969 := fun i _ => thr_bd hW _
theorem kS_z {σ : SG} (hW : WF σ) : zI (σ 0 9) = nI (kS σ) := by have := hW.ms; unfold kS; exact z_nat (by omega)
theorem RT.of {σ : SG} {mj : MI} (hW : WF σ) (hs : RMs σ mj) (hB : RMb σ mj) : RT (kS σ) (muS σ) mj := by
  refine ⟨by rw [hs.2.2.2.1, kS_z hW], fun q hq => ?_⟩
  have := hW.ms
  rw [hB.2.2.2.2 q (by unfold kS at hq; omega), muS_z hW hq]
theorem RT.u0 {K : Nat} {μ : Nat → Nat} {mj : MI} (h : RT K μ mj) (x : Int32) : RT K μ (u2 mj 48 0 x) := h
section
variable {nb db b : Nat} {by_ rs : RX} {c : Nat} {σ : SG} {mi mj m : MI} {ml mk l : ML} {μ : Nat → Nat} {T : Nat → Int} {i K N : Nat}
theorem R_squaresOf (hK : K ≤ 12) (h9 : m 48 9 = nI K) {t : Nat} (ht : t < rk μ K) (hRW : RW l t (fun k => XX (vsS μ T K) (psS μ T K) t (cc k)) (SS (vsS μ z0 K) (psS μ z0 K))) {x : Int32} (hx : x = nI t) :
    ∃ l' : ML, Ret m_r_squaresOf [vR 19 0 48, vI x] none c (MRc nb db by_ rs) m l m l' ∧ l' 48 3 = zL (lU (sumZ (fun k => XX (vsS μ z0 K) (psS μ z0 K) t (31 + k) * XX (vsS μ z0 K) (psS μ z0 K) t (31 + k)) K) (SS (vsS μ z0 K) (psS μ z0 K) * SS (vsS μ z0 K) (psS μ z0 K))) ∧ l' 48 4 = zL (lL (sumZ (fun k => XX (vsS μ z0 K) (psS μ z0 K) t (31 + k) * XX (vsS μ z0 K) (psS μ z0 K) t (31 + k)) K) (SS (vsS μ z0 K) (psS μ z0 K) * SS (vsS μ z0 K) (psS μ z0 K))) ∧ ∀ a, a ≠ 48 → l' a = l a := by
  have hrk := rk_i (μ := μ) K
  have sb := SSb (μ := μ) hK
  have hSS : 0 < SS (vsS μ z0 K) (psS μ z0 K) * SS (vsS μ z0 K) (psS μ z0 K) := Int.mul_pos sb.1 sb.1
  have xb : ∀ k, k < K → (XX (vsS μ z0 K) (psS μ z0 K) t (31 + k)).natAbs ≤ 7484400 := fun k hk => XXb hK ht (by omega)
  have yb : ∀ j, j ≤ K → (sumZ (fun k => XX (vsS μ z0 K) (psS μ z0 K) t (31 + k) * XX (vsS μ z0 K) (psS μ z0 K) t (31 + k)) j).natAbs ≤ j * 56016243360000 := by
    intro j
    induction j with
    | zero => intro _; exact Nat.le_refl 0
    | succ j ih =>
      intro hj
      have h1 := ih (by omega)
      have h2 : (XX (vsS μ z0 K) (psS μ z0 K) t (31 + j) * XX (vsS μ z0 K) (psS μ z0 K) t (31 + j)).natAbs ≤ 7484400 * 7484400 := by rw [Int.natAbs_mul]; exact Nat.mul_le_mul (xb j (by omega)) (xb j (by omega))
      show (sumZ _ j + XX (vsS μ z0 K) (psS μ z0 K) t (31 + j) * XX (vsS μ z0 K) (psS μ z0 K) t (31 + j)).natAbs ≤ _
      rw [Nat.succ_mul]
      omega
  have key : ∀ j, j ≤ K → ∀ (i : Int32) (l1 : ML), i = nI j → l1 48 3 = zL (lU (sumZ (fun k => XX (vsS μ z0 K) (psS μ z0 K) t (31 + k) * XX (vsS μ z0 K) (psS μ z0 K) t (31 + k)) j) (SS (vsS μ z0 K) (psS μ z0 K) * SS (vsS μ z0 K) (psS μ z0 K))) → l1 48 4 = zL (lL (sumZ (fun k => XX (vsS μ z0 K) (psS μ z0 K) t (31 + k) * XX (vsS μ z0 K) (psS μ z0 K) t (31 + k)) j) (SS (vsS μ z0 K) (psS μ z0 K) * SS (vsS μ z0 K) (psS μ z0 K))) → (∀ a, a ≠ 48 → l1 a = l a) →
      ∃ l' : ML, Go m_r_squaresOf 8 [some (vR 19 0 48), some (vI x), some (vI i), none, none, none, none, none, none] [] none c (MRc nb db by_ rs) m l1 m l' ∧ l' 48 3 = zL (lU (sumZ (fun k => XX (vsS μ z0 K) (psS μ z0 K) t (31 + k) * XX (vsS μ z0 K) (psS μ z0 K) t (31 + k)) K) (SS (vsS μ z0 K) (psS μ z0 K) * SS (vsS μ z0 K) (psS μ z0 K))) ∧ l' 48 4 = zL (lL (sumZ (fun k => XX (vsS μ z0 K) (psS μ z0 K) t (31 + k) * XX (vsS μ z0 K) (psS μ z0 K) t (31 + k)) K) (SS (vsS μ z0 K) (psS μ z0 K) * SS (vsS μ z0 K) (psS μ z0 K))) ∧ ∀ a, a ≠ 48 → l' a = l a := by
    refine upto ?_ ?_
    · intro i l1 hi h3 h4 h5
      exact ⟨l1, g_r_squaresOf_8 ⟨fun _ => ⟨rfl, rfl, rfl⟩, fun g => absurd (by rw [h9, hi]; exact Int32.le_refl _) g⟩, h3, h4, h5⟩
    · intro j hj ih i l1 hi h3 h4 h5
      have i0 : nI 44 * x + nI 32 + i = nI (44 * t + (32 + j)) := by rw [hx, hi, pk_mul, nI_add, nI_add, Nat.add_assoc]
      have c0 : (nI 44 * x + nI 32 + i).toNatClampNeg = 44 * t + (32 + j) := cln i0 (by omega)
      have v0 : vp_in (nI 44 * x + nI 32 + i) 528 := ixn i0 (by omega) (by decide)
      have ecc : XX (vsS μ T K) (psS μ T K) t (cc (32 + j)) = XX (vsS μ z0 K) (psS μ z0 K) t (31 + j) := by rw [cc_hi (by omega), XX_T (by omega), show 32 + j - 1 = 31 + j by omega]
      obtain ⟨r1, r2⟩ := hRW (32 + j) (by omega)
      have r1 : l 62 (44 * t + (32 + j)) = zL (lU (XX (vsS μ T K) (psS μ T K) t (cc (32 + j))) (SS (vsS μ z0 K) (psS μ z0 K))) := r1
      have r2 : l 63 (44 * t + (32 + j)) = zL (lL (XX (vsS μ T K) (psS μ T K) t (cc (32 + j))) (SS (vsS μ z0 K) (psS μ z0 K))) := r2
      rw [ecc] at r1 r2
      have hy := yb j (by omega)
      have hyb : j * 56016243360000 ≤ 12 * 56016243360000 := Nat.mul_le_mul_right _ (by omega)
      have xbj := xb j hj
      have en : sumZ (fun k => XX (vsS μ z0 K) (psS μ z0 K) t (31 + k) * XX (vsS μ z0 K) (psS μ z0 K) t (31 + k)) (j + 1) = sumZ (fun k => XX (vsS μ z0 K) (psS μ z0 K) t (31 + k) * XX (vsS μ z0 K) (psS μ z0 K) t (31 + k)) j + XX (vsS μ z0 K) (psS μ z0 K) t (31 + j) * XX (vsS μ z0 K) (psS μ z0 K) t (31 + j) := rfl
      rw [en] at ih
      obtain ⟨o1, o2, b1, b2, a', b', t1, t2, t3, pA, lA, n3, s1, s2⟩ := SQ_arith (X := XX (vsS μ z0 K) (psS μ z0 K) t (31 + j)) (Y := sumZ (fun k => XX (vsS μ z0 K) (psS μ z0 K) t (31 + k) * XX (vsS μ z0 K) (psS μ z0 K) t (31 + k)) j) sb.1 sb.2 xbj (by omega) rfl rfl
      rw [← s1, ← s2] at ih
      have eu : l1 62 (nI 44 * x + nI 32 + i).toNatClampNeg = zL (lU (XX (vsS μ z0 K) (psS μ z0 K) t (31 + j)) (SS (vsS μ z0 K) (psS μ z0 K))) := by rw [c0, h5 62 (by decide), r1]
      have el : l1 63 (nI 44 * x + nI 32 + i).toNatClampNeg = zL (lL (XX (vsS μ z0 K) (psS μ z0 K) t (31 + j)) (SS (vsS μ z0 K) (psS μ z0 K))) := by rw [c0, h5 63 (by decide), r2]
      clear s1 s2 r1 r2 ecc hy yb xb xbj en hRW
      generalize sumZ (fun k => XX (vsS μ z0 K) (psS μ z0 K) t (31 + k) * XX (vsS μ z0 K) (psS μ z0 K) t (31 + k)) j = Y at *
      generalize SS (vsS μ z0 K) (psS μ z0 K) = S at *
      generalize XX (vsS μ z0 K) (psS μ z0 K) t (31 + j) = X at *
      have eb : l1 63 (nI 44 * x + nI 32 + i).toNatClampNeg * l1 63 (nI 44 * x + nI 32 + i).toNatClampNeg = zL (lL X S * lL X S) := by rw [el, zL_mul]
      have ea : l1 62 (nI 44 * x + nI 32 + i).toNatClampNeg * l1 62 (nI 44 * x + nI 32 + i).toNatClampNeg = zL (lU X S * lU X S) := by rw [eu, zL_mul]
      generalize lL X S * lL X S = bb' at *
      generalize lU X S * lU X S = aa' at *
      have g3 := gcZ_bd (u := lL Y (S * S)) b1
      have eg3 : lN (Nat.gcd (lL Y (S * S)).natAbs bb'.natAbs) = zL (gcZ (lL Y (S * S)) bb') := lN_z _
      have nz3 : ¬ lN (Nat.gcd (lL Y (S * S)).natAbs bb'.natAbs) = 0 := by rw [eg3]; exact zL_nz ⟨by omega, by omega⟩ (by omega)
      have R3 := R_divisor (nb := nb) (db := db) (by_ := by_) (rs := rs) (c := c) (mi := m) (ml := l1) (u := lL Y (S * S)) (d := bb') ⟨by omega, o2⟩ ⟨Int.le_of_lt b1, b2⟩ h4 eb
      have e3 : l1 48 4 / lN (Nat.gcd (lL Y (S * S)).natAbs bb'.natAbs) = zL a' := by rw [h4, eg3, zL_div ⟨by omega, by omega⟩ ⟨by omega, by omega⟩, t1]
      have eA : l1 48 4 / lN (Nat.gcd (lL Y (S * S)).natAbs bb'.natAbs) * (l1 63 (nI 44 * x + nI 32 + i).toNatClampNeg * l1 63 (nI 44 * x + nI 32 + i).toNatClampNeg) = zL (a' * bb') := by rw [e3, eb, zL_mul]
      have eN : l1 48 3 * (l1 48 4 / lN (Nat.gcd (lL Y (S * S)).natAbs bb'.natAbs) * (l1 63 (nI 44 * x + nI 32 + i).toNatClampNeg * l1 63 (nI 44 * x + nI 32 + i).toNatClampNeg) / l1 48 4) + l1 62 (nI 44 * x + nI 32 + i).toNatClampNeg * l1 62 (nI 44 * x + nI 32 + i).toNatClampNeg * (l1 48 4 / lN (Nat.gcd (lL Y (S * S)).natAbs bb'.natAbs) * (l1 63 (nI 44 * x + nI 32 + i).toNatClampNeg * l1 63 (nI 44 * x + nI 32 + i).toNatClampNeg) / (l1 63 (nI 44 * x + nI 32 + i).toNatClampNeg * l1 63 (nI 44 * x + nI 32 + i).toNatClampNeg)) = zL (lU Y (S * S) * b' + aa' * a') := by
        rw [eA, ea, eb, h4, h3, zL_div ⟨by omega, by omega⟩ ⟨by omega, by omega⟩, zL_div ⟨by omega, by omega⟩ ⟨by omega, by omega⟩, t2, t3, zL_mul, zL_mul, zL_add]
      have RP := R_sets (nb := nb) (db := db) (by_ := by_) (rs := rs) (c := c) (mi := m) (ml := l1) (lt63 n3) ⟨pA, lA⟩ eN eA
      obtain ⟨l', q1, q2, q3, q4⟩ := ih (i + nI 1) (u2 (u2 l1 48 3 (zL (lU (lU Y (S * S) * b' + aa' * a') (a' * bb')))) 48 4 (zL (lL (lU Y (S * S) * b' + aa' * a') (a' * bb')))) (inc hi) (by rw [u2_ne2 _ _ (Or.inr (by decide)), u2_s]) (by rw [u2_s]) (fun a ha => by rw [u2_o _ _ ha, u2_o _ _ ha]; exact h5 a ha)
      refine ⟨l', g_r_squaresOf_8 ⟨fun g => absurd g (by rw [h9]; exact lp_g rfl hi hj (by omega)), fun _ => ⟨v0, v0, v0, v0, _, R3, nz3, ?_, ?_, _, _, RP, q1⟩⟩, q2, q3, q4⟩
      · rw [h4]; exact zL_nz ⟨by omega, by omega⟩ (by omega)
      · rw [eb]; exact zL_nz ⟨by omega, by omega⟩ (by omega)
  have h00 := lw_eq (u := 0) (d := 1) (x := 0) (s := SS (vsS μ z0 K) (psS μ z0 K) * SS (vsS μ z0 K) (psS μ z0 K)) (by decide) hSS (by rw [Int.zero_mul, Int.zero_mul])
  have RP0 := R_sets (nb := nb) (db := db) (by_ := by_) (rs := rs) (c := c) (mi := m) (ml := l) (u := 0) (d := 1) (a := lN 0) (e := lN 1) (by decide) (by decide) rfl rfl
  obtain ⟨l', q1, q2⟩ := key 0 (Nat.zero_le _) (nI 0) (u2 (u2 l 48 3 (zL (lU 0 1))) 48 4 (zL (lL 0 1))) rfl (by rw [u2_ne2 _ _ (Or.inr (by decide)), u2_s]; exact congrArg zL h00.1) (by rw [u2_s]; exact congrArg zL h00.2) (fun a ha => by rw [u2_o _ _ ha, u2_o _ _ ha])
  exact ⟨l', g_r_squaresOf_0 ⟨_, _, RP0, q1⟩, q2⟩
/-- the reference lays its rows, as a call begins -/
theorem LAYS (hW : WF σ) (hr : σ 0 0 = 1) (hs : RMs σ mj) (hB : RMb σ mj) : ∃ (m' : MI) (l' : ML), Ret m_r_laysRows [vR 19 0 48] none c (MRc nb db by_ rs) (u2 mj 48 0 (nI 0)) mk m' l' ∧ RLm (muS σ) (thT σ) (kS σ) (u2 mj 48 0 (nI 0)) m' l' ∧ ∀ a, a ≠ 48 → a ≠ 62 → a ≠ 63 → l' a = mk a := by
  refine R_laysRows (muS_31 hW) (kS_12 hW) (thT_bd hW) ((RT.of hW hs hB).u0 _) (fun m l hA i hi => ?_)
  have hx : RMx σ m := ⟨by rw [hA.2 5 (by decide) (by decide)]; exact hs.2.2.1, by rw [hA.2 7 (by decide) (by decide)]; exact (hs.dtk hr).2.1, by rw [hA.2 8 (by decide) (by decide)]; exact (hs.dtk hr).2.2⟩
  exact R_thr' hW hx (hB.eq (fun a ha => by rw [hA.1 a (by omega) (by omega), u2_o _ _ (by omega)])) (muS_31 hW i hi) rfl
theorem FRw.ag {m' : MI} (h : AgM (u2 mj 48 0 (nI 0)) m') (w : Nat) : FRw mj (u2 (u2 m' 48 1 (nI w)) 48 2 (-(nI 1))) w := by
  refine ⟨?_, u2_s _ _ _ _, fun k h3 h50 => ?_, fun a a1 a2 => ?_⟩
  · rw [u2_ne2 _ _ (Or.inr (by decide)), u2_s]
  · rw [u2_ne2 _ _ (Or.inr (by omega)), u2_ne2 _ _ (Or.inr (by omega)), h.2 k (by omega) (by omega), u2_ne2 _ _ (Or.inr (by omega))]
  · rw [u2_o _ _ a1, u2_o _ _ a1, h.1 a a1 (by omega), u2_o _ _ a1]
theorem FLw.of3 {l' : ML} (h : ∀ a, a ≠ 48 → a ≠ 62 → a ≠ 63 → l' a = mk a) : FLw mk l' := fun a ha => h a (by omega) (by omega) (by omega)
end
