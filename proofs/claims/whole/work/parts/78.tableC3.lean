/-! ===== masks: the class's table, built ===== -/
section
variable {nb db b : Nat} {by_ rs : RX} {c : Nat} {mi mj m : MI} {ml mk : ML} {μ : Nat → Nat} {i : Nat}
theorem CP_all (hi : i < 12) {p : Nat} (hp : pvO μ z0 i = some p) (hm : ∀ q, q < i → (∀ p', pvO μ z0 q = some p' → m 34 q = nI p') ∧ (pvO μ z0 q = none → m 34 q = -(nI 1))) {x y : Int32} (hx : x = nI i) (hy : y = nI p) {u : Int64} (hu : u = zL (SS (vsS μ z0 (i + 1)) (psS μ z0 (i + 1)))) :
    ∀ h, h ≤ i → ∀ (z : Int32) (l : ML), z = nI h → l 19 2 = zL (SS (vsS μ z0 i) (psS μ z0 i)) → (∀ q, q < 43 → l (22 + i) q = zL (XX (vsS μ z0 (i + 1)) (psS μ z0 (i + 1)) (rk μ i) q)) → (∀ q, q < i → ∀ p', pvO μ z0 q = some p' → ∀ k, k < 43 → l (22 + q) k = zL (if q < h then XX (vsS μ z0 (i + 1)) (psS μ z0 (i + 1)) (rk μ q) k else XX (vsS μ z0 i) (psS μ z0 i) (rk μ q) k)) →
    ∃ l' : ML, Go m_mt_clearPivot 48 [some (vR 16 0 19), some (vI x), some (vI y), some (vR 1 43 (22 + i)), some (vL u), none, some (vI z), none, none, none, none] [] none c (MRc nb db by_ rs) m l m l' ∧ l' 19 2 = zL (SS (vsS μ z0 (i + 1)) (psS μ z0 (i + 1))) ∧ (∀ q, q < i → ∀ p', pvO μ z0 q = some p' → ∀ k, k < 43 → l' (22 + q) k = zL (XX (vsS μ z0 (i + 1)) (psS μ z0 (i + 1)) (rk μ q) k)) ∧ (∀ q, (q < i → pvO μ z0 q = none) → l' (22 + q) = l (22 + q)) ∧ ∀ a, a ≠ 19 → a < 22 ∨ 33 < a → l' a = l a := by
  obtain ⟨p31, hne, -⟩ := pv_sp hp
  have ok := mS_ok μ z0 i
  have h0 := Piv_ne ok.1
  have hne' : dt (vm μ z0 i :: vsS μ z0 i) (p :: psS μ z0 i) ≠ 0 := fun e => hne ((NW_ne h0).mpr e)
  have sb := SSb (μ := μ) (show i ≤ 12 by omega)
  refine upto ?_ ?_
  · intro z l hz h1 h2 h3
    refine ⟨_, g_mt_clearPivot_48 ⟨fun _ => ⟨rfl, rfl, rfl⟩, fun g => absurd (by rw [hx, hz]; exact Int32.le_refl _) g⟩, ?_, fun q hq p' hp' k hk => ?_, fun q hq => u2_o _ _ (by omega), fun a a1 a2 => u2_o _ _ a1⟩
    · rw [u2_s, hu]
    · rw [u2_o _ _ (by omega), h3 q hq p' hp' k hk, if_pos hq]
  · intro h hh ih z l hz h1 h2 h3
    have cz : z.toNatClampNeg = h := cln hz (by omega)
    have vz : vp_in z 12 := ixn hz (by omega) (by decide)
    have ng : ¬ x ≤ z := by rw [hx, hz, nI_leN (by omega) (by omega)]; omega
    have np : ¬ l 19 2 ≤ lN 0 := by
      rw [h1, lN_z, zL_le ⟨by omega, by omega⟩ (by decide)]
      show ¬ _ ≤ (0 : Int)
      omega
    cases e : pvO μ z0 h with
    | none =>
      obtain ⟨l', q1, q2, q3, q4, q5⟩ := ih (z + nI 1) l (inc hz) h1 h2 (fun q hq p' hp' k hk => by
        rw [h3 q hq p' hp' k hk]
        by_cases g : q < h
        · rw [if_pos g, if_pos (by omega)]
        · have : q ≠ h := fun z => by rw [z, e] at hp'; cases hp'
          rw [if_neg g, if_neg (by omega)])
      exact ⟨l', g_mt_clearPivot_48 ⟨fun g => absurd g ng, fun _ => ⟨fun g => absurd g np, fun _ => ⟨vz, fun _ => q1, fun g => absurd (by rw [cz, (hm h hh).2 e]; decide) g⟩⟩⟩, q2, q3, q4, q5⟩
    | some ph =>
      have hrk := rk_lt hh e
      have cy : y.toNatClampNeg = p := cln hy (by omega)
      have npv : ¬ m 34 z.toNatClampNeg < 0 := by
        have := (pv_sp e).1
        rw [cz, (hm h hh).1 ph e]
        exact fun g => absurd ((nI_ltI (by omega) (by decide)).mp (show nI ph < nI 0 from g)) (by omega)
      have hold : ∀ k, SS (vsS μ z0 i) (psS μ z0 i) * XX (vsS μ z0 (i + 1)) (psS μ z0 (i + 1)) (rk μ h) k = SS (vsS μ z0 (i + 1)) (psS μ z0 (i + 1)) * XX (vsS μ z0 i) (psS μ z0 i) (rk μ h) k - XX (vsS μ z0 i) (psS μ z0 i) (rk μ h) p * XX (vsS μ z0 (i + 1)) (psS μ z0 (i + 1)) (rk μ i) k := fun k => by
        rw [vs_s hp, ps_s hp]
        exact XX_old ok.1 hne' hrk k
      have hrow : ∀ k, k < 43 → l (22 + h) k = zL (XX (vsS μ z0 i) (psS μ z0 i) (rk μ h) k) := fun k hk => by rw [h3 h hh ph e k hk, if_neg (Nat.lt_irrefl h)]
      obtain ⟨l1, w1, w2, w3⟩ := CP_row (nb := nb) (db := db) (by_ := by_) (rs := rs) (c := c) (m := m) (x := x) (y := y) (z := z) (F := XX (vsS μ z0 i) (psS μ z0 i) (rk μ h)) (G := XX (vsS μ z0 (i + 1)) (psS μ z0 (i + 1)) (rk μ i)) (F' := XX (vsS μ z0 (i + 1)) (psS μ z0 (i + 1)) (rk μ h)) hi hh sb.1 sb.2 (fun k _ => hold k) (fun k hk => by
          rw [← hold k, Int.natAbs_mul]
          have x1 := XXb (μ := μ) (show i + 1 ≤ 12 by omega) (show rk μ h < rk μ (i + 1) by rw [rk_s hp]; omega) hk
          have : (SS (vsS μ z0 i) (psS μ z0 i)).natAbs * (XX (vsS μ z0 (i + 1)) (psS μ z0 (i + 1)) (rk μ h) k).natAbs ≤ 7484400 * 7484400 := Nat.mul_le_mul (by omega) x1
          omega) hu (v := l (22 + h) y.toNatClampNeg) (by rw [cy]; exact hrow p (by omega)) 0 (by omega) (nI 0) l rfl h1 h2 (fun k _ hk => hrow k hk) (fun k hk => by omega)
      obtain ⟨l', q1, q2, q3, q4, q5⟩ := ih (z + nI 1) l1 (inc hz) (by rw [w3 19 (by omega)]; exact h1) (fun k hk => by rw [w3 (22 + i) (by omega)]; exact h2 k hk) (fun q hq p' hp' k hk => by
        by_cases g : q = h
        · rw [g, w2 k hk, if_pos (by omega)]
        · rw [w3 (22 + q) (by omega), h3 q hq p' hp' k hk]
          by_cases g2 : q < h
          · rw [if_pos g2, if_pos (by omega)]
          · rw [if_neg g2, if_neg (by omega)])
      refine ⟨l', g_mt_clearPivot_48 ⟨fun g => absurd g ng, fun _ => ⟨fun g => absurd g np, fun _ => ⟨vz, fun g => absurd g npv, fun _ => ⟨h, hz, by omega, ixn hy (by omega) (by decide), w1 _ _ _ q1⟩⟩⟩⟩, q2, q3, fun q hq => ?_, fun a a1 a2 => by rw [q5 a a1 a2, w3 a (by omega)]⟩
      have : q ≠ h := fun z => by
        have := hq (by omega)
        rw [z, e] at this; cases this
      rw [q4 q hq, w3 (22 + q) (by omega)]
theorem R_clearPivot (hi : i < 12) {p : Nat} (hp : pvO μ z0 i = some p) (H : CMr μ i mi ml) (hS : ml 19 2 = zL (SS (vsS μ z0 i) (psS μ z0 i))) (hr : ∀ q, q < 43 → ml (22 + i) q = zL (NW (vm μ z0 i) (vsS μ z0 i) (psS μ z0 i) q)) {x y : Int32} (hx : x = nI i) (hy : y = nI p) :
    ∃ l' : ML, Ret m_mt_clearPivot [vR 16 0 19, vI x, vI y] none c (MRc nb db by_ rs) mi ml mi l' ∧ l' 19 2 = zL (SS (vsS μ z0 (i + 1)) (psS μ z0 (i + 1))) ∧ (∀ q, q < i → ∀ p', pvO μ z0 q = some p' → ∀ k, k < 43 → l' (22 + q) k = zL (XX (vsS μ z0 (i + 1)) (psS μ z0 (i + 1)) (rk μ q) k)) ∧ (∀ k, k < 43 → l' (22 + i) k = zL (XX (vsS μ z0 (i + 1)) (psS μ z0 (i + 1)) (rk μ i) k)) ∧ (∀ q, q < i → pvO μ z0 q = none → l' (22 + q) = ml (22 + q)) ∧ ∀ a, a ≠ 19 → a < 22 ∨ 33 < a → l' a = ml a := by
  obtain ⟨p31, hne, -⟩ := pv_sp hp
  have h0 := Piv_ne (mS_ok μ z0 i).1
  have hm : ∀ q, q < i → (∀ p', pvO μ z0 q = some p' → mi 34 q = nI p') ∧ (pvO μ z0 q = none → mi 34 q = -(nI 1)) := fun q hq => ⟨fun p' hp' => ((H q hq).1 p' hp').1, fun hp' => ((H q hq).2 hp').1⟩
  have cy : y.toNatClampNeg = p := cln hy (by omega)
  have vy : vp_in y 43 := ixn hy (by omega) (by decide)
  have nb1 := NWb (μ := μ) hi (show p < 43 by omega)
  have eX : ∀ k, XX (vsS μ z0 (i + 1)) (psS μ z0 (i + 1)) (rk μ i) k = (NW (vm μ z0 i) (vsS μ z0 i) (psS μ z0 i) p).sign * NW (vm μ z0 i) (vsS μ z0 i) (psS μ z0 i) k := fun k => by
    rw [vs_s hp, ps_s hp]; exact XX_new h0 k
  have eS : SS (vsS μ z0 (i + 1)) (psS μ z0 (i + 1)) = ((NW (vm μ z0 i) (vsS μ z0 i) (psS μ z0 i) p).natAbs : Int) := by rw [vs_s hp, ps_s hp]; exact SS_new h0
  have h3 : ∀ l : ML, (∀ a, a ≠ 22 + i → l a = ml a) → ∀ q, q < i → ∀ p', pvO μ z0 q = some p' → ∀ k, k < 43 → l (22 + q) k = zL (if q < 0 then XX (vsS μ z0 (i + 1)) (psS μ z0 (i + 1)) (rk μ q) k else XX (vsS μ z0 i) (psS μ z0 i) (rk μ q) k) := fun l hl q hq p' hp' k hk => by
    rw [hl (22 + q) (by omega), if_neg (Nat.not_lt_zero q)]
    exact ((H q hq).1 p' hp').2 k hk
  by_cases hs : 0 ≤ NW (vm μ z0 i) (vsS μ z0 i) (psS μ z0 i) p
  · have sg1 : (NW (vm μ z0 i) (vsS μ z0 i) (psS μ z0 i) p).sign = 1 := Int.sign_eq_one_iff_pos.mpr (by omega)
    have r1 : ∀ k, k < 43 → ml (22 + i) k = zL (XX (vsS μ z0 (i + 1)) (psS μ z0 (i + 1)) (rk μ i) k) := fun k hk => by rw [hr k hk, eX, sg1, Int.one_mul]
    have hu : ml (22 + i) y.toNatClampNeg = zL (SS (vsS μ z0 (i + 1)) (psS μ z0 (i + 1))) := by
      rw [cy, hr p (by omega), eS]; congr 1; omega
    obtain ⟨l', q1, q2, q3, q4, q5⟩ := CP_all (nb := nb) (db := db) (by_ := by_) (rs := rs) (c := c) (m := mi) hi hp hm hx hy hu 0 (by omega) (nI 0) ml rfl hS r1 (h3 ml (fun _ _ => rfl))
    refine ⟨l', g_mt_clearPivot_0 ⟨i, hx, hi, vy, fun _ => ⟨vy, q1⟩, fun g => absurd ?_ g⟩, q2, q3, fun k hk => ?_, fun q hq hn => q4 q (fun _ => hn), q5⟩
    · rw [cy, hr p (by omega), lN_z, zL_le (by decide) (lR63 (by omega))]; exact hs
    · rw [q4 i (fun g => by omega)]; exact r1 k hk
  · have sg1 : (NW (vm μ z0 i) (vsS μ z0 i) (psS μ z0 i) p).sign = -1 := Int.sign_eq_neg_one_iff_neg.mpr (by omega)
    obtain ⟨l1, w1, w2, -, w4⟩ := CP_neg (nb := nb) (db := db) (by_ := by_) (rs := rs) (c := c) (m := mi) (x := x) hi (show p < 43 by omega) hy 0 (by omega) (nI 0) ml rfl
    have r1 : ∀ k, k < 43 → l1 (22 + i) k = zL (XX (vsS μ z0 (i + 1)) (psS μ z0 (i + 1)) (rk μ i) k) := fun k hk => by
      rw [w2 k (by omega) hk, hr k hk, zL_neg, eX, sg1]; congr 1; omega
    have hu : l1 (22 + i) p = zL (SS (vsS μ z0 (i + 1)) (psS μ z0 (i + 1))) := by
      rw [w2 p (by omega) (by omega), hr p (by omega), zL_neg, eS]; congr 1; omega
    obtain ⟨l', q1, q2, q3, q4, q5⟩ := CP_all (nb := nb) (db := db) (by_ := by_) (rs := rs) (c := c) (m := mi) hi hp hm hx hy hu 0 (by omega) (nI 0) l1 rfl (by rw [w4 19 (by omega)]; exact hS) r1 (h3 l1 w4)
    refine ⟨l', g_mt_clearPivot_0 ⟨i, hx, hi, vy, fun g => absurd g ?_, fun _ => w1 _ _ _ q1⟩, q2, q3, fun k hk => ?_, fun q hq hn => by rw [q4 q (fun _ => hn), w4 (22 + q) (by omega)], fun a a1 a2 => by rw [q5 a a1 a2, w4 a (by omega)]⟩
    · rw [cy, hr p (by omega), lN_z, zL_le (by decide) (lR63 (by omega))]; exact hs
    · rw [q4 i (fun g => by omega)]; exact r1 k hk
end
/-- a row that tells its pivot alone -/
def onR (μ : Nat → Nat) (K t : Nat) : Bool := (List.range 31).all (fun c => decide (c = PT (psS μ z0 K) t) || decide (XX (vsS μ z0 K) (psS μ z0 K) t c = 0))
def tlB (μ : Nat → Nat) (K i j : Nat) : Bool := (List.range i).any (fun q => decide (pvO μ z0 q = some j) && onR μ K (rk μ q))
theorem onR_t {μ : Nat → Nat} {K t : Nat} : onR μ K t = true ↔ ∀ c, c < 31 → c ≠ PT (psS μ z0 K) t → XX (vsS μ z0 K) (psS μ z0 K) t c = 0 := by
  unfold onR
  rw [List.all_eq_true]
  constructor
  · intro h c hc hne
    have := h c (List.mem_range.mpr hc)
    rw [Bool.or_eq_true, decide_eq_true_eq, decide_eq_true_eq] at this
    rcases this with z | z
    · exact absurd z hne
    · exact z
  · intro h c hc
    rw [Bool.or_eq_true, decide_eq_true_eq, decide_eq_true_eq]
    by_cases e : c = PT (psS μ z0 K) t
    · exact Or.inl e
    · exact Or.inr (h c (List.mem_range.mp hc) e)
theorem tlB_t {μ : Nat → Nat} {K i j : Nat} : tlB μ K i j = true ↔ ∃ q, q < i ∧ pvO μ z0 q = some j ∧ onR μ K (rk μ q) = true := by
  unfold tlB
  rw [List.any_eq_true]
  constructor
  · rintro ⟨q, h1, h2⟩
    rw [Bool.and_eq_true, decide_eq_true_eq] at h2
    exact ⟨q, List.mem_range.mp h1, h2.1, h2.2⟩
  · rintro ⟨q, h1, h2, h3⟩
    exact ⟨q, List.mem_range.mpr h1, by rw [Bool.and_eq_true, decide_eq_true_eq]; exact ⟨h2, h3⟩⟩
theorem tlB_no {μ : Nat → Nat} {K i j : Nat} (h : ¬ (pvO μ z0 i = some j ∧ onR μ K (rk μ i) = true)) : tlB μ K (i + 1) j = tlB μ K i j := by
  apply Bool.eq_iff_iff.mpr
  rw [tlB_t, tlB_t]
  constructor
  · rintro ⟨q, h1, h2, h3⟩
    by_cases e : q = i
    · rw [e] at h2 h3; exact absurd ⟨h2, h3⟩ h
    · exact ⟨q, by omega, h2, h3⟩
  · rintro ⟨q, h1, h2, h3⟩
    exact ⟨q, by omega, h2, h3⟩
