/-! ===== longs; fractions in lowest terms; nets, what is had back ===== -/
theorem zL_div {a b : Int} (ha : lR a) (hb : lR b) : zL a / zL b = zL (a.tdiv b) := by
  apply Int64.toInt_inj.mp
  rw [Int64.toInt_div, zL_toInt ha, zL_toInt hb]
  unfold zL
  rw [Int64.toInt_ofInt]
theorem zL_rem {a b : Int} (ha : lR a) (hb : lR b) : rmL (zL a) (zL b) = zL (a.tmod b) := by
  unfold rmL
  rw [zL_div ha hb, zL_mul, zL_sub, Int.tmod_def, Int.mul_comm]
theorem zL_nz {b : Int} (hb : lR b) (h : b ≠ 0) : ¬ zL b = 0 := by
  rw [show (0 : Int64) = zL 0 from rfl, zL_eq hb (by decide)]; exact h
theorem lN_rem {x y : Nat} (hx : x < 2 ^ 63) (h0 : 0 < y) (hy : y < 2 ^ 63) : rmL (lN x) (lN y) = lN (x % y) := pk_lRem hx h0 hy
theorem lN_0 {y : Nat} (hy : y < 2 ^ 63) : lN y = lN 0 ↔ y = 0 := by
  rw [lN_z, lN_z, zL_eq ⟨by omega, by omega⟩ (by decide)]; omega
theorem lN_nz {y : Nat} (hy : y < 2 ^ 63) (h : 0 < y) : ¬ lN y = 0 := fun z => by
  have := (lN_0 hy).mp z
  omega
theorem abs_c {u : Int} (h : -9223372036854775808 < u ∧ u < 9223372036854775808) : (if 0 < zL u then zL u else -(zL u)) = lN u.natAbs := by
  by_cases h0 : 0 < u
  · rw [if_pos (by rw [show (0 : Int64) = zL 0 from rfl, zL_lt (by decide) ⟨by omega, by omega⟩]; exact h0), lN_z]
    congr 1; omega
  · rw [if_neg (by rw [show (0 : Int64) = zL 0 from rfl, zL_lt (by decide) ⟨by omega, by omega⟩]; exact h0), zL_neg, lN_z]
    congr 1; omega
section
variable {nb db b : Nat} {by_ rs : RX} {c : Nat} {σ : SG} {mi mj : MI} {ml mk : ML} {x j : Int32}
theorem R_divL {l0 l2 : Int64} : ∀ (n y : Nat), y < n → ∀ (x : Nat) (a d : Int64), x < 2 ^ 63 → y < 2 ^ 63 → a = lN x → d = lN y → Go m_r_divisor 17 [some (vL l0), none, some (vL l2), none, some (vL a), none, some (vL d), none, none, none] [] (some (vL (lN (Nat.gcd x y)))) c (MRc nb db by_ rs) mi ml mi ml := by
  intro n
  induction n with
  | zero => intro y hy; omega
  | succ n ih =>
    intro y hy x a d hx hy2 ha hd
    refine g_r_divisor_17 ⟨fun g => ⟨?_, rfl, rfl⟩, fun g => ?_⟩
    · rw [hd, lN_0 hy2] at g
      rw [g, Nat.gcd_zero_right, ha]
    · have h0 : 0 < y := by
        rcases Nat.eq_zero_or_pos y with z | z
        · rw [hd, z] at g; exact absurd rfl g
        · exact z
      have hm := Nat.mod_lt x h0
      refine ⟨by rw [hd]; exact lN_nz hy2 h0, ?_⟩
      rw [Nat.gcd_comm, Nat.gcd_rec]
      have := ih (x % y) (by omega) y d (rmL a d) hy2 (by omega) hd (by rw [ha, hd]; exact lN_rem hx h0 hy2)
      rw [Nat.gcd_comm y] at this
      exact this
theorem R_divisor {u d : Int} (hu : -9223372036854775808 < u ∧ u < 9223372036854775808) (hd : 0 ≤ d ∧ d < 9223372036854775808) {a e : Int64} (ea : a = zL u) (ee : e = zL d) : Ret m_r_divisor [vL a, vL e] (some (vL (lN (Nat.gcd u.natAbs d.natAbs)))) c (MRc nb db by_ rs) mi ml mi ml := by
  have e2 : e = lN d.natAbs := by rw [ee, lN_z]; congr 1; omega
  refine g_r_divisor_0 ⟨fun g => R_divL _ _ (Nat.lt_succ_self _) _ _ _ (by omega) (by omega) ?_ e2, fun g => R_divL _ _ (Nat.lt_succ_self _) _ _ _ (by omega) (by omega) ?_ e2⟩
  · rw [ea, lN_z, zL_le (by decide) ⟨by omega, by omega⟩] at g
    rw [ea, lN_z]; congr 1; omega
  · rw [ea, lN_z, zL_le (by decide) ⟨by omega, by omega⟩] at g
    rw [ea, lN_z, zL_neg]; congr 1; omega
theorem R_cdL {l0 l2 : Int64} : ∀ (k y : Nat), y < 2 ^ k → ∀ (s x : Nat) (a d : Int64) (q : Int32), x < 2 ^ 63 → y < 2 ^ 63 → a = lN x → d = lN y → q = nI s → s + 2 * k + 1 ≤ 100 → Go m_ra_commonDivisor 9 [some (vL l0), none, some (vL l2), none, some (vL a), none, some (vL d), none, some (vI q), none, none] [] (some (vL (lN (Nat.gcd x y)))) c (MRc nb db by_ rs) mi ml mi ml := by
  have z0 : ∀ (s x : Nat) (a d : Int64) (q : Int32), a = lN x → d = lN 0 → Go m_ra_commonDivisor 9 [some (vL l0), none, some (vL l2), none, some (vL a), none, some (vL d), none, some (vI q), none, none] [] (some (vL (lN (Nat.gcd x 0)))) c (MRc nb db by_ rs) mi ml mi ml := by
    intro s x a d q ha hd
    exact g_ra_commonDivisor_9 ⟨fun _ => ⟨by rw [Nat.gcd_zero_right, ha], rfl, rfl⟩, fun _ => ⟨fun _ => ⟨by rw [Nat.gcd_zero_right, ha], rfl, rfl⟩, fun g => absurd hd g⟩⟩
  intro k
  induction k with
  | zero =>
    intro y hy s x a d q hx hy2 ha hd hq hs
    have : y = 0 := by simp at hy; exact hy
    rw [this] at hd ⊢
    exact z0 s x a d q ha hd
  | succ k ih =>
    intro y hy s x a d q hx hy2 ha hd hq hs
    rcases Nat.eq_zero_or_pos y with z | h0
    · rw [z] at hd ⊢
      exact z0 s x a d q ha hd
    · have hm := Nat.mod_lt x h0
      have e1 : rmL a d = lN (x % y) := by rw [ha, hd]; exact lN_rem hx h0 hy2
      have g1 : Nat.gcd x y = Nat.gcd y (x % y) := by rw [Nat.gcd_comm, Nat.gcd_rec, Nat.gcd_comm]
      refine g_ra_commonDivisor_9 ⟨fun g => ?_, fun _ => ⟨fun g => ?_, fun _ => ⟨by rw [hd]; exact lN_nz hy2 h0, ?_⟩⟩⟩
      · rw [hq, nI_leN (by decide) (by omega)] at g; omega
      · rw [hd, lN_0 hy2] at g; omega
      · rw [g1]
        rcases Nat.eq_zero_or_pos (x % y) with z | h1
        · rw [z] at e1 ⊢
          exact z0 (s + 1) y d _ _ hd e1
        · have hm2 := Nat.mod_lt y h1
          have e2 : rmL d (rmL a d) = lN (y % (x % y)) := by
            rw [e1, hd]; exact lN_rem hy2 h1 (by omega)
          have g2 : Nat.gcd y (x % y) = Nat.gcd (x % y) (y % (x % y)) := by
            conv => lhs; rw [Nat.gcd_comm, Nat.gcd_rec, Nat.gcd_comm]
          refine g_ra_commonDivisor_9 ⟨fun g => ?_, fun _ => ⟨fun g => ?_, fun _ => ⟨by rw [e1]; exact lN_nz (by omega) h1, ?_⟩⟩⟩
          · rw [inc hq, nI_leN (by decide) (by omega)] at g; omega
          · rw [e1, lN_0 (by omega)] at g; omega
          · rw [g2]
            refine ih (y % (x % y)) ?_ (s + 2) (x % y) _ _ _ (by omega) (by omega) e1 e2 (inc (inc hq)) (by omega)
            rw [Nat.pow_succ] at hy
            rcases Nat.lt_or_ge (2 * (x % y)) y with w | w
            · omega
            · have e3 : y % (x % y) ≤ y - x % y := by
                rw [Nat.mod_eq_sub_mod (by omega)]
                exact Nat.mod_le _ _
              omega
theorem R_common {u d : Int} (hu : -9223372036854775808 < u ∧ u < 9223372036854775808) (hd : 0 ≤ d ∧ d < 562949953421312) {a e : Int64} (ea : a = lN u.natAbs) (ee : e = zL d) : Ret m_ra_commonDivisor [vL a, vL e] (some (vL (lN (Nat.gcd u.natAbs d.natAbs)))) c (MRc nb db by_ rs) mi ml mi ml := by
  have e2 : e = lN d.natAbs := by rw [ee, lN_z]; congr 1; omega
  exact g_ra_commonDivisor_0 (R_cdL 49 _ (by omega) 0 _ _ _ _ (by omega) (by omega) ea e2 rfl (by decide))
/-- a fraction in lowest terms: its upper, its lower whole -/
def gcZ (u d : Int) : Int := (Nat.gcd u.natAbs d.natAbs : Nat)
def frL (u d : Int) (lower : Int32) : Int64 := if lower = 0 then zL (u.tdiv (gcZ u d)) else zL (d.tdiv (gcZ u d))
theorem gcZ_bd {u d : Int} (hd : 0 < d) : 0 < gcZ u d ∧ gcZ u d ≤ d := by
  have h1 : 0 < Nat.gcd u.natAbs d.natAbs := Nat.gcd_pos_of_pos_right _ (by omega)
  have h2 := Nat.gcd_le_right u.natAbs (show 0 < d.natAbs by omega)
  unfold gcZ; omega
theorem R_part {u d : Int} (hu : -9223372036854775808 < u ∧ u < 9223372036854775808) (hd : 0 < d ∧ d < 562949953421312) {a e : Int64} (ea : a = zL u) (ee : e = zL d) {lower : Int32} : Ret m_ra_part [vL a, vL e, vI lower] (some (vL (frL u d lower))) c (MRc nb db by_ rs) mi ml mi ml := by
  have hg := gcZ_bd (u := u) hd.1
  have eg : lN (Nat.gcd u.natAbs d.natAbs) = zL (gcZ u d) := lN_z _
  refine g_ra_part_0 ⟨_, R_common hu ⟨by omega, hd.2⟩ (by rw [ea]; exact abs_c hu) ee, fun g => ⟨fun g2 => ⟨?_, ?_, rfl, rfl⟩, fun g2 => ⟨?_, ?_, rfl, rfl⟩⟩, fun g => absurd ?_ g⟩
  · rw [eg]; exact zL_nz ⟨by omega, by omega⟩ (by omega)
  · rw [eg, ea, zL_div ⟨by omega, by omega⟩ ⟨by omega, by omega⟩]; unfold frL; rw [if_pos g2]
  · rw [eg]; exact zL_nz ⟨by omega, by omega⟩ (by omega)
  · rw [eg, ee, zL_div ⟨by omega, by omega⟩ ⟨by omega, by omega⟩]; unfold frL; rw [if_neg g2]
  · rw [eg, lN_z, zL_lt (by decide) ⟨by omega, by omega⟩]; omega
theorem R_sets {u d : Int} (hu : -9223372036854775808 < u ∧ u < 9223372036854775808) (hd : 0 < d ∧ d < 9223372036854775808) {a e : Int64} (ea : a = zL u) (ee : e = zL d) : Ret m_r_sets [vR 19 0 48, vL a, vL e] none c (MRc nb db by_ rs) mi ml mi (u2 (u2 ml 48 3 (zL (u.tdiv (gcZ u d)))) 48 4 (zL (d.tdiv (gcZ u d)))) := by
  have hg := gcZ_bd (u := u) hd.1
  have eg : lN (Nat.gcd u.natAbs d.natAbs) = zL (gcZ u d) := lN_z _
  refine g_r_sets_0 ⟨_, R_divisor hu ⟨by omega, hd.2⟩ ea ee, ?_, ?_, rfl, rfl, ?_⟩
  · rw [eg]; exact zL_nz ⟨by omega, by omega⟩ (by omega)
  · rw [eg]; exact zL_nz ⟨by omega, by omega⟩ (by omega)
  · rw [eg, ea, ee, zL_div ⟨by omega, by omega⟩ ⟨by omega, by omega⟩, zL_div ⟨by omega, by omega⟩ ⟨by omega, by omega⟩]
end
/-! nets -/
def netF (σ : SG) (i : Nat) : Int := if bt (loB σ) i = 1 then 0 else rdg σ i - σ 0 7
def netS (σ : SG) : Int := sumZ (netF σ) (σ 0 5).toNat
def whl (σ : SG) : Int := (((σ 0 5).toNat + 1) / 2 : Nat) * mon σ
def netZ (σ : SG) (i : Nat) : Int := if bt (loB σ) i = 1 then whl σ - netS σ else rdg σ i - σ 0 7
def netA (σ : SG) : Int := if los σ = 1 then whl σ else netS σ
def bkF (σ : SG) (j i : Nat) : Int := if bt (plS σ i) j = 1 then netZ σ i else 0
def backZ (σ : SG) (j : Nat) : Int := 4 * sumZ (bkF σ j) (σ 0 5).toNat - 2 * netA σ
theorem sumZ_ab {f : Nat → Int} {M : Int} (h : ∀ j, -M ≤ f j ∧ f j ≤ M) : ∀ n : Nat, -(n * M) ≤ sumZ f n ∧ sumZ f n ≤ n * M
  | 0 => by simp [sumZ]
  | n + 1 => by
    have ih := sumZ_ab h n
    have := h n
    show -(((n + 1 : Nat) : Int) * M) ≤ sumZ f n + f n ∧ sumZ f n + f n ≤ ((n + 1 : Nat) : Int) * M
    rw [Int.natCast_add, Int.add_mul]
    omega
theorem netF_bd {σ : SG} (hW : WF σ) (i : Nat) : -1098 ≤ netF σ i ∧ netF σ i ≤ 311067 := by
  have := rdg_bd hW i
  have := hW.dk
  unfold netF; split <;> omega
theorem n31c {σ : SG} (hW : WF σ) : ∃ n : Nat, (σ 0 5).toNat = n ∧ σ 0 5 = n ∧ n ≤ 31 := by
  obtain ⟨n, h, h2⟩ := wf_n hW
  exact ⟨n, by omega, h, h2⟩
theorem netS_bd {σ : SG} (hW : WF σ) : -9643077 ≤ netS σ ∧ netS σ ≤ 9643077 := by
  obtain ⟨n, en, hn, h31⟩ := n31c hW
  have := sumZ_ab (f := netF σ) (M := 311067) (fun i => by have := netF_bd hW i; omega) n
  unfold netS; rw [en]
  omega
theorem whl_bd {σ : SG} (hW : WF σ) : 0 ≤ whl σ ∧ whl σ ≤ 4959504 := by
  obtain ⟨n, en, hn, h31⟩ := n31c hW
  have := mon_bd hW
  unfold whl; rw [en]
  have h2 : (((n + 1) / 2 : Nat) : Int) ≤ 16 := by omega
  have h3 : (0 : Int) ≤ (((n + 1) / 2 : Nat) : Int) := by omega
  constructor
  · exact Int.mul_nonneg h3 this.1
  · calc (((n + 1) / 2 : Nat) : Int) * mon σ ≤ 16 * mon σ := Int.mul_le_mul_of_nonneg_right h2 this.1
      _ ≤ 4959504 := by omega
theorem netZ_bd {σ : SG} (hW : WF σ) (i : Nat) : -14602581 ≤ netZ σ i ∧ netZ σ i ≤ 14602581 := by
  have := rdg_bd hW i
  have := hW.dk
  have := whl_bd hW
  have := netS_bd hW
  unfold netZ; split <;> omega
theorem netA_bd {σ : SG} (hW : WF σ) : -9643077 ≤ netA σ ∧ netA σ ≤ 9643077 := by
  have := whl_bd hW
  have := netS_bd hW
  unfold netA; split <;> omega
theorem back_bd {σ : SG} (hW : WF σ) (j : Nat) : -1830006198 ≤ backZ σ j ∧ backZ σ j ≤ 1830006198 := by
  obtain ⟨n, en, hn, h31⟩ := n31c hW
  have := sumZ_ab (f := bkF σ j) (M := 14602581) (fun i => by have := netZ_bd hW i; unfold bkF; split <;> omega) n
  have := netA_bd hW
  unfold backZ; rw [en]
  omega
section
variable {nb db b : Nat} {by_ rs : RX} {c : Nat} {σ : SG} {mi mj : MI} {ml mk : ML} {x j : Int32}
/-- the class's nets -/
theorem N_loop2 (hbb : b = 43 ∨ b = 5) (hW : WF σ) (hB : RCb σ b mi) {n : Nat} (hn : σ 0 5 = n) (u v : Int32) : ∀ j, j ≤ n → ∀ (i : Int32) (m : MI), i = nI j → (∀ a, a ≠ 15 → m a = mi a) →
    ∃ m' : MI, Go m_sg_findNets 84 [some (vR 14 0 11), some (vR 13 0 b), some (vI u), some (vI v), some (vI i)] [] none c (MRc nb db by_ rs) m ml m' (u2 ml 11 4 v.toInt64) ∧ (∀ a, a ≠ 15 → m' a = mi a) ∧ (∀ k, k < j ∨ n ≤ k → m' 15 k = m 15 k) ∧ ∀ k, j ≤ k → k < n → m' 15 k = if bt (loB σ) k = 1 then v - u else m 15 k := by
  have h31 : n ≤ 31 := by have := hW.nn; omega
  refine upto ?_ ?_
  · intro i m hi hm
    have hBm : RCb σ b m := hB.fr hbb (fun q hq => hm q (by omega))
    exact ⟨m, g_sg_findNets_84 hbb ⟨fun _ => ⟨rfl, rfl, rfl⟩, fun h => absurd (lp_d (hBm.n hn) hi) h⟩, hm, fun _ _ => rfl, fun k h1 h2 => by omega⟩
  · intro j hj ih i m hi hm
    have hBm : RCb σ b m := hB.fr hbb (fun q hq => hm q (by omega))
    have hc := hBm.n hn
    have el := lost_i hW (hBm.lo hW) hi (show j < 32 by omega)
    by_cases hl : bt (loB σ) j = 1
    · obtain ⟨m', p1, p2, p3, p4⟩ := ih (i + nI 1) (u2 m 15 j (v - u)) (inc hi) (fun a ha => by rw [u2_o _ _ ha, hm a ha])
      refine ⟨m', g_sg_findNets_84 hbb ⟨fun h => absurd h (lp_g hc hi hj (by omega)), fun _ => ⟨fun g => absurd (el.mpr hl) g, fun _ => ⟨ixn hi (by omega) (by decide), by rw [cln hi (by omega)]; exact p1⟩⟩⟩, p2, fun k hk => ?_, fun k hk hkn => ?_⟩
      · rw [p3 k (by omega), u2_ne2 _ _ (Or.inr (by omega))]
      · rcases Nat.lt_or_ge j k with z | z
        · rw [p4 k (by omega) hkn, u2_ne2 _ _ (Or.inr (by omega))]
        · have : k = j := by omega
          subst this
          rw [p3 k (by omega), u2_s, if_pos hl]
    · obtain ⟨m', p1, p2, p3, p4⟩ := ih (i + nI 1) m (inc hi) hm
      refine ⟨m', g_sg_findNets_84 hbb ⟨fun h => absurd h (lp_g hc hi hj (by omega)), fun _ => ⟨fun _ => p1, fun g => absurd (el.mp g) hl⟩⟩, p2, fun k hk => p3 k (by omega), fun k hk hkn => ?_⟩
      rcases Nat.lt_or_ge j k with z | z
      · exact p4 k (by omega) hkn
      · have : k = j := by omega
        subst this
        rw [p3 k (by omega), if_neg hl]
theorem pcN_pos : ∀ (k n i : Nat), i < k → bt n i = 1 → 0 < pcN k n
  | 0, n, i, h, _ => by omega
  | k + 1, n, i, h, hb => by
    show 0 < n % 2 + pcN k (n / 2)
    cases i with
    | zero => unfold bt at hb; rw [Nat.pow_zero, Nat.div_one] at hb; omega
    | succ i =>
      have := pcN_pos k (n / 2) i (by omega) (by
        unfold bt at hb ⊢
        rw [Nat.div_div_eq_div_mul, ← Nat.pow_succ']
        exact hb)
      omega
theorem los_pos {i : Nat} (hi : i < 32) (h : bt (loB σ) i = 1) : 0 < los σ := pcN_pos 32 _ i hi h
theorem los_le : los σ ≤ 32 := pcN_le 32 _
theorem N_half (hbb : b = 43 ∨ b = 5) (hW : WF σ) (hB : RCb σ b mi) {n : Nat} (hn : σ 0 5 = n) : (mi b 0 + nI 1) / nI 2 * zI (mon σ) = zI (whl σ) := by
  have h31 : n ≤ 31 := by have := hW.nn; omega
  rw [hB.n hn, nI_add, pk_div (by omega) (by decide) (by decide), nI_z, zI_mul]
  unfold whl
  rw [show (σ 0 5).toNat = n by omega]
theorem N_loop1 (hbb : b = 43 ∨ b = 5) (hW : WF σ) (hB : RCb σ b mi) (hR : ∀ k : Nat, (k : Int) < σ 0 5 → ¬ bt (loB σ) k = 1 → mi 14 k = zI (rdg σ k)) {n : Nat} (hn : σ 0 5 = n) : ∀ j, j ≤ n → ∀ (i a : Int32) (m : MI), i = nI j → a = zI (sumZ (netF σ) j) → (∀ a, a ≠ 15 → m a = mi a) →
    ∃ m' : MI, Go m_sg_findNets 4 [some (vR 14 0 11), some (vR 13 0 b), some (vI a), some (vI i), none] [] none c (MRc nb db by_ rs) m ml m' (u2 ml 11 4 (zL (netA σ))) ∧ (∀ a, a ≠ 15 → m' a = mi a) ∧ (∀ k, k < j → m' 15 k = if bt (loB σ) k = 1 ∧ los σ = 1 then zI (whl σ) - zI (netS σ) else m 15 k) ∧ ∀ k, j ≤ k → k < n → m' 15 k = if bt (loB σ) k = 1 ∧ los σ = 1 then zI (whl σ) - zI (netS σ) else zI (netF σ k) := by
  have h31 : n ≤ 31 := by have := hW.nn; omega
  have eS : netS σ = sumZ (netF σ) n := by unfold netS; rw [show (σ 0 5).toNat = n by omega]
  have bS := netS_bd hW
  have bw := whl_bd hW
  refine upto ?_ ?_
  · intro i a m hi ha hm
    have hBm : RCb σ b m := hB.fr hbb (fun q hq => hm q (by omega))
    have hc := hBm.n hn
    have ea : a.toInt64 = zL (netS σ) := by rw [ha, ← eS, zI_l ⟨by omega, by omega⟩]
    have hlos := los_le (σ := σ)
    by_cases h1 : los σ = 1
    · have eA : netA σ = whl σ := if_pos h1
      obtain ⟨m', p1, p2, p3, p4⟩ := N_loop2 (nb := nb) (db := db) (by_ := by_) (rs := rs) (c := c) (ml := u2 ml 11 4 a.toInt64) hbb hW hBm hn a (zI (whl σ)) 0 (by omega) (nI 0) m rfl (fun _ _ => rfl)
      rw [u2_u2, zI_l ⟨by omega, by omega⟩] at p1
      rw [eA]
      refine ⟨m', g_sg_findNets_4 hbb ⟨fun _ => ⟨_, R_lostCount hbb hW hBm, fun _ => ⟨_, R_monitor hbb hW hBm, ?_⟩, fun g => absurd (by rw [h1]) g⟩, fun h => absurd (lp_d hc hi) h⟩, fun q hq => (p2 q hq).trans (hm q hq), fun k hk => ?_, fun k h1 h2 => by omega⟩
      · rw [N_half hbb hW hBm hn]; exact p1
      · rw [p4 k (by omega) hk, eS, ← ha]
        by_cases hl : bt (loB σ) k = 1
        · rw [if_pos hl, if_pos ⟨hl, h1⟩]
        · rw [if_neg hl, if_neg (fun z => hl z.1)]
    · have eA : netA σ = netS σ := if_neg h1
      refine ⟨m, g_sg_findNets_4 hbb ⟨fun _ => ⟨_, R_lostCount hbb hW hBm, fun g => ?_, fun _ => ⟨rfl, rfl, by rw [ea, eA]⟩⟩, fun h => absurd (lp_d hc hi) h⟩, hm, fun k hk => ?_, fun k h1 h2 => by omega⟩
      · rw [nI_eq (by omega) (by decide)] at g; exact absurd g h1
      · rw [if_neg (fun z => h1 z.2)]
  · intro j hj ih i a m hi ha hm
    have hBm : RCb σ b m := hB.fr hbb (fun q hq => hm q (by omega))
    have hc := hBm.n hn
    have el := lost_i hW (hBm.lo hW) hi (show j < 32 by omega)
    by_cases hl : bt (loB σ) j = 1
    · have eF : netF σ j = 0 := if_pos hl
      obtain ⟨m', p1, p2, p3, p4⟩ := ih (i + nI 1) (a + u2 m 15 i.toNatClampNeg (nI 0) 15 i.toNatClampNeg) (u2 m 15 j (nI 0)) (inc hi) (by
        rw [u2_s, ha, show nI 0 = zI 0 from rfl, zI_add]
        show _ = zI (sumZ (netF σ) j + netF σ j)
        rw [eF]) (fun a ha => by rw [u2_o _ _ ha, hm a ha])
      refine ⟨m', g_sg_findNets_4 hbb ⟨fun h => absurd h (lp_g hc hi hj (by omega)), fun _ => ⟨fun g => absurd (el.mpr hl) g, fun _ => ⟨ixn hi (by omega) (by decide), ixn hi (by omega) (by decide), ?_⟩⟩⟩, p2, fun k hk => ?_, fun k hk hkn => ?_⟩
      · have e : (u2 m 15 i.toNatClampNeg (nI 0)) = u2 m 15 j (nI 0) := by rw [cln hi (by omega)]
        rw [e] at p1 ⊢; exact p1
      · rw [p3 k (by omega), u2_ne2 _ _ (Or.inr (by omega))]
      · rcases Nat.lt_or_ge j k with z | z
        · exact p4 k (by omega) hkn
        · have : k = j := by omega
          subst this
          rw [p3 k (by omega), u2_s, eF]; rfl
    · have eF : netF σ j = rdg σ j - σ 0 7 := if_neg hl
      have er : m 14 i.toNatClampNeg - m b 2 = zI (netF σ j) := by
        rw [cln hi (by omega), hm 14 (by decide), hR j (by omega) hl, hBm.2.2.1, zI_sub, eF]
      obtain ⟨m', p1, p2, p3, p4⟩ := ih (i + nI 1) (a + u2 m 15 i.toNatClampNeg (m 14 i.toNatClampNeg - m b 2) 15 i.toNatClampNeg) (u2 m 15 j (zI (netF σ j))) (inc hi) (by
        rw [u2_s, ha, er, zI_add]; rfl) (fun a ha => by rw [u2_o _ _ ha, hm a ha])
      refine ⟨m', g_sg_findNets_4 hbb ⟨fun h => absurd h (lp_g hc hi hj (by omega)), fun _ => ⟨fun _ => ⟨ixn hi (by omega) (by decide), ixn hi (by omega) (by decide), ixn hi (by omega) (by decide), ?_⟩, fun g => absurd (el.mp g) hl⟩⟩, p2, fun k hk => ?_, fun k hk hkn => ?_⟩
      · have e : (u2 m 15 i.toNatClampNeg (m 14 i.toNatClampNeg - m b 2)) = u2 m 15 j (zI (netF σ j)) := by rw [er, cln hi (by omega)]
        rw [e] at p1 ⊢; exact p1
      · rw [p3 k (by omega), u2_ne2 _ _ (Or.inr (by omega))]
      · rcases Nat.lt_or_ge j k with z | z
        · exact p4 k (by omega) hkn
        · have : k = j := by omega
          subst this
          rw [p3 k (by omega), u2_s]
theorem R_findNets (hbb : b = 43 ∨ b = 5) (hW : WF σ) (hB : RCb σ b mi) (hR : ∀ k : Nat, (k : Int) < σ 0 5 → ¬ bt (loB σ) k = 1 → mi 14 k = zI (rdg σ k)) : ∃ m' : MI, Ret m_sg_findNets [vR 14 0 11, vR 13 0 b] none c (MRc nb db by_ rs) mi ml m' (u2 ml 11 4 (zL (netA σ))) ∧ (∀ a, a ≠ 15 → m' a = mi a) ∧ ∀ k : Nat, (k : Int) < σ 0 5 → (¬ bt (loB σ) k = 1 ∨ los σ = 1) → m' 15 k = zI (netZ σ k) := by
  obtain ⟨n, hn, h31⟩ := wf_n hW
  obtain ⟨m', p1, p2, p3, p4⟩ := N_loop1 (nb := nb) (db := db) (by_ := by_) (rs := rs) (c := c) (ml := ml) hbb hW hB hR hn 0 (by omega) (nI 0) (nI 0) mi rfl rfl (fun _ _ => rfl)
  refine ⟨m', g_sg_findNets_0 hbb p1, p2, fun k hk h => ?_⟩
  rw [p4 k (by omega) (by omega)]
  unfold netZ netF
  by_cases hl : bt (loB σ) k = 1
  · have h1 : los σ = 1 := by
      rcases h with h | h
      · exact absurd hl h
      · exact h
    rw [if_pos ⟨hl, h1⟩, if_pos hl, zI_sub]
  · rw [if_neg (fun z => hl z.1), if_neg hl, if_neg hl]
end
