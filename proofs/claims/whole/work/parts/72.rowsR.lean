/-! ===== masks: the reference lays its rows ===== -/
def fsO (p : Nat → Bool) : Nat → Nat → Option Nat
  | 0, _ => none
  | d + 1, j => if p j = true then some j else fsO p d (j + 1)
/-- a mask as a row: its colours, its own factor, what is looked at -/
def vm (μ : Nat → Nat) (T : Nat → Int) (i c : Nat) : Int := if c < 31 then (bt (μ i) c : Int) else if c < 43 then (if c = 31 + i then 1 else 0) else if c = 43 then T i else 0
theorem vm_bd {μ : Nat → Nat} {T : Nat → Int} {i : Nat} (hT : 0 ≤ T i ∧ T i ≤ 309969) (q : Nat) : 0 ≤ vm μ T i q ∧ vm μ T i q ≤ wt43 q := by
  unfold vm wt43
  by_cases h1 : q < 31
  · rw [if_pos h1, if_neg (by omega)]
    rcases bt_01 (μ i) q with z | z <;> rw [z] <;> decide
  · rw [if_neg h1]
    by_cases h2 : q < 43
    · rw [if_pos h2, if_neg (show ¬ q = 43 by omega)]
      split <;> decide
    · rw [if_neg h2]
      by_cases h3 : q = 43
      · rw [if_pos h3, if_pos h3]; omega
      · rw [if_neg h3, if_neg h3]; decide
/-- where the reference has a column -/
def cc (k : Nat) : Nat := if k < 31 then k else if k = 31 then 43 else k - 1
theorem cc_lo {k : Nat} (h : k < 31) : cc k = k := if_pos h
theorem cc_31 : cc 31 = 43 := rfl
theorem cc_hi {k : Nat} (h : 31 < k) : cc k = k - 1 := by unfold cc; rw [if_neg (by omega), if_neg (by omega)]
def pvD (μ : Nat → Nat) (T : Nat → Int) (i : Nat) (q : List Nat × List Nat) : Option Nat := fsO (fun c => decide (NW (vm μ T i) (q.1.map (vm μ T)) q.2 c ≠ 0)) 31 0
def mS (μ : Nat → Nat) (T : Nat → Int) : Nat → List Nat × List Nat
  | 0 => ([], [])
  | i + 1 => match pvD μ T i (mS μ T i) with
    | none => mS μ T i
    | some p => (i :: (mS μ T i).1, p :: (mS μ T i).2)
def pvO (μ : Nat → Nat) (T : Nat → Int) (i : Nat) : Option Nat := pvD μ T i (mS μ T i)
theorem mS_n {μ : Nat → Nat} {T : Nat → Int} {i : Nat} (h : pvO μ T i = none) : mS μ T (i + 1) = mS μ T i := by
  show (match pvD μ T i (mS μ T i) with | none => mS μ T i | some p => (i :: (mS μ T i).1, p :: (mS μ T i).2)) = _
  have h : pvD μ T i (mS μ T i) = none := h
  rw [h]
theorem mS_s {μ : Nat → Nat} {T : Nat → Int} {i p : Nat} (h : pvO μ T i = some p) : mS μ T (i + 1) = (i :: (mS μ T i).1, p :: (mS μ T i).2) := by
  show (match pvD μ T i (mS μ T i) with | none => mS μ T i | some p => (i :: (mS μ T i).1, p :: (mS μ T i).2)) = _
  have h : pvD μ T i (mS μ T i) = some p := h
  rw [h]
theorem fsO_s {p : Nat → Bool} {n : Nat} : ∀ d j, fsO p d j = some n → p n = true ∧ j ≤ n ∧ n < j + d ∧ ∀ k, j ≤ k → k < n → p k = false
  | 0, j, h => by cases h
  | d + 1, j, h => by
    have h : (if p j = true then some j else fsO p d (j + 1)) = some n := h
    by_cases e : p j = true
    · rw [if_pos e] at h
      have h := Option.some.inj h
      rw [← h]
      exact ⟨e, Nat.le_refl _, by omega, fun k h1 h2 => by omega⟩
    · rw [if_neg e] at h
      obtain ⟨h1, h2, h3, h4⟩ := fsO_s d (j + 1) h
      refine ⟨h1, by omega, by omega, fun k k1 k2 => ?_⟩
      by_cases ek : k = j
      · rw [ek]; exact Bool.eq_false_iff.mpr e
      · exact h4 k (by omega) k2
theorem fsO_n {p : Nat → Bool} : ∀ d j, fsO p d j = none → ∀ k, j ≤ k → k < j + d → p k = false
  | 0, j, _, k, h1, h2 => by omega
  | d + 1, j, h, k, h1, h2 => by
    have h : (if p j = true then some j else fsO p d (j + 1)) = none := h
    by_cases e : p j = true
    · rw [if_pos e] at h; cases h
    · rw [if_neg e] at h
      by_cases ek : k = j
      · rw [ek]; exact Bool.eq_false_iff.mpr e
      · exact fsO_n d (j + 1) h k (by omega) (by omega)
def vsS (μ : Nat → Nat) (T : Nat → Int) (i : Nat) : List (Nat → Int) := (mS μ T i).1.map (vm μ T)
def psS (μ : Nat → Nat) (T : Nat → Int) (i : Nat) : List Nat := (mS μ T i).2
theorem mS_ok (μ : Nat → Nat) (T : Nat → Int) : ∀ i, Piv (vsS μ T i) (psS μ T i) ∧ (psS μ T i).length = (vsS μ T i).length ∧ (vsS μ T i).length ≤ i ∧ (∀ q ∈ psS μ T i, q < 31) ∧ ∀ q ∈ (mS μ T i).1, q < i
  | 0 => ⟨trivial, rfl, Nat.le_refl 0, (fun q hq => by cases hq), (fun q hq => by cases hq)⟩
  | i + 1 => by
    obtain ⟨h1, h2, h3, h4, h5⟩ := mS_ok μ T i
    cases e : pvO μ T i with
    | none =>
      unfold vsS psS
      rw [mS_n e]
      exact ⟨h1, h2, Nat.le_succ_of_le h3, h4, fun q hq => by have := h5 q hq; omega⟩
    | some p =>
      have e0 : fsO (fun c => decide (NW (vm μ T i) ((mS μ T i).1.map (vm μ T)) (mS μ T i).2 c ≠ 0)) 31 0 = some p := e
      obtain ⟨g1, g2, g3, -⟩ := fsO_s 31 0 e0
      have g1 := of_decide_eq_true g1
      have l1 : (mS μ T i).2.length = (mS μ T i).1.length := by
        have : (psS μ T i).length = (vsS μ T i).length := h2
        unfold psS vsS at this
        rw [List.length_map] at this; exact this
      have l2 : (mS μ T i).1.length ≤ i := by
        have : (vsS μ T i).length ≤ i := h3
        unfold vsS at this
        rw [List.length_map] at this; exact this
      unfold vsS psS
      rw [mS_s e]
      refine ⟨And.intro h1 (fun z => g1 ((NW_ne (Piv_ne h1)).mpr z)), ?_, ?_, fun q hq => ?_, fun q hq => ?_⟩
      · rw [List.length_map, List.length_cons, List.length_cons, l1]
      · rw [List.length_map, List.length_cons]; omega
      · rcases List.mem_cons.mp hq with z | z
        · omega
        · exact h4 q z
      · rcases List.mem_cons.mp hq with z | z
        · omega
        · have := h5 q z; omega
theorem vsS_ok {μ : Nat → Nat} {T : Nat → Int} {K : Nat} (hT : ∀ i, i < K → 0 ≤ T i ∧ T i ≤ 309969) {i : Nat} (hi : i ≤ K) : okR (vsS μ T i) := by
  intro v hv q
  obtain ⟨m, hm, rfl⟩ := List.mem_map.mp hv
  exact vm_bd (hT m (by have := (mS_ok μ T i).2.2.2.2 m hm; omega)) q
/-- what stands in the reference's memory of rows that are laid -/
def RSm (vs : List (Nat → Int)) (ps : List Nat) (mi : MI) (mk : ML) : Prop := mi 48 51 = nI ps.length ∧ (∀ t, t < ps.length → mi 64 t = nI (PT ps t)) ∧ ∀ t, t < ps.length → RW mk t (fun k => XX vs ps t (cc k)) (SS vs ps)
theorem wt_le (q : Nat) : 1 ≤ wt43 q ∧ wt43 q ≤ 309969 := by unfold wt43; split <;> omega
theorem m3 {a b w A B W N : Nat} (h1 : a ≤ A * w) (h2 : b ≤ B) (h3 : w ≤ W) (h4 : A * W * B ≤ N) : a * b ≤ N := by
  calc a * b ≤ (A * w) * B := Nat.mul_le_mul h1 h2
    _ ≤ (A * W) * B := Nat.mul_le_mul_right _ (Nat.mul_le_mul_left _ h3)
    _ ≤ N := h4
section
variable {nb db b : Nat} {by_ rs : RX} {c : Nat} {mi mj : MI} {ml mk : ML}
/-- a row by its own pivot -/
theorem LR_loop {R p : Nat} (hR : R < 12) {F G : Nat → Int} {S S' : Int} (hS : 0 < S) (hp0 : F p ≠ 0) (hS' : S' = (F p).sign * F p) (hG : ∀ k, k < 44 → G k = (F p).sign * F k) (hB : ∀ k, k < 44 → (F k).natAbs * S.natAbs < 9223372036854775808) (hBp : S.natAbs * (F p).natAbs < 9223372036854775808) (h48 : mi 48 51 = nI R)
    {x : Int32} {u v w : Int64} (hu : u = zL (lU (F p) S)) (hv : v = zL (lL (F p) S)) (hw : w = zL (lU (F p) S).sign) :
    ∀ j, j ≤ 44 → ∀ (i : Int32) (m : ML), i = nI j → (∀ k, k < j → m 62 (44 * R + k) = zL (lU (G k) S') ∧ m 63 (44 * R + k) = zL (lL (G k) S')) → (∀ k, j ≤ k → k < 44 → m 62 (44 * R + k) = zL (lU (F k) S) ∧ m 63 (44 * R + k) = zL (lL (F k) S)) →
    ∃ m2 : ML, (∀ rv mi' ml', Go m_r_laysRow 126 [some (vR 19 0 48), some (vI x), some (vL u), none, some (vL v), none, some (vL w), none, some (vI (nI 0))] [] rv c (MRc nb db by_ rs) (u2 mi 64 R x) m2 mi' ml' → Go m_r_laysRow 49 [some (vR 19 0 48), some (vI x), some (vL u), none, some (vL v), none, some (vL w), none, some (vI i)] [] rv c (MRc nb db by_ rs) mi m mi' ml') ∧ RW m2 R G S' ∧ (∀ t, t < 44 * R ∨ 44 * R + 44 ≤ t → m2 62 t = m 62 t ∧ m2 63 t = m 63 t) ∧ ∀ a, a ≠ 48 → a ≠ 62 → a ≠ 63 → m2 a = m a := by
  have hS'p : 0 < S' := by rw [hS', Int.sign_mul_self]; omega
  have ratp := lw_rat (x := F p) (s := S)
  have bp := lL_pos (x := F p) hS
  have bp2 := lL_le (x := F p) hS
  have ap := lU_le (x := F p) hS
  have ap0 : lU (F p) S ≠ 0 := fun h => hp0 ((lU_0 hS).mp h)
  have hss := sign_sq ap0
  have hsa : (lU (F p) S).sign * lU (F p) S = ((lU (F p) S).natAbs : Int) := Int.sign_mul_self _
  refine upto ?_ ?_
  · intro i m hi h1 h2
    refine ⟨m, fun rv mi' ml' K => g_r_laysRow_49 ⟨fun _ => ⟨ixn h48 hR (by decide), ?_⟩, fun g => absurd (by rw [hi]; exact Int32.le_refl _) g⟩, fun k hk => h1 k hk, fun _ _ => ⟨rfl, rfl⟩, fun _ _ _ _ => rfl⟩
    rw [cln h48 (by omega)]
    exact K
  · intro j hj ih i m hi h1 h2
    have i1 := i44 h48 hi
    have c1 : (nI 44 * mi 48 51 + i).toNatClampNeg = 44 * R + j := cln i1 (by omega)
    have v1 : vp_in (nI 44 * mi 48 51 + i) 528 := ixn i1 (by omega) (by decide)
    obtain ⟨r1, r2⟩ := h2 j (by omega) hj
    have ratj := lw_rat (x := F j) (s := S)
    have lj := lL_pos (x := F j) hS
    have lj2 := lL_le (x := F j) hS
    have uj := lU_le (x := F j) hS
    have eU : m 62 (nI 44 * mi 48 51 + i).toNatClampNeg * v * w = zL (lU (F j) S * lL (F p) S * (lU (F p) S).sign) := by rw [c1, r1, hv, hw, zL_mul, zL_mul]
    have eD : m 63 (nI 44 * mi 48 51 + i).toNatClampNeg * u * w = zL (lL (F j) S * lU (F p) S * (lU (F p) S).sign) := by rw [c1, r2, hu, hw, zL_mul, zL_mul]
    have hD : lL (F j) S * lU (F p) S * (lU (F p) S).sign = lL (F j) S * ((lU (F p) S).natAbs : Int) := by rw [← hsa]; grind
    have hDp : 0 < lL (F j) S * lU (F p) S * (lU (F p) S).sign := by rw [hD]; exact Int.mul_pos lj (by omega)
    have hDl : lL (F j) S * lU (F p) S * (lU (F p) S).sign < 9223372036854775808 := by
      have h5 : (lL (F j) S * ((lU (F p) S).natAbs : Int)).natAbs ≤ S.natAbs * (F p).natAbs := by
        rw [Int.natAbs_mul, Int.natAbs_natCast]
        exact Nat.mul_le_mul (by omega) ap
      rw [hD]; omega
    have hUl : (lU (F j) S * lL (F p) S * (lU (F p) S).sign).natAbs < 9223372036854775808 := by
      have h5 : (lU (F j) S * lL (F p) S).natAbs ≤ (F j).natAbs * S.natAbs := by
        rw [Int.natAbs_mul]
        exact Nat.mul_le_mul uj (by omega)
      have h6 := sgn_le (lU (F p) S) (lU (F j) S * lL (F p) S)
      rw [Int.mul_comm] at h6
      have := hB j hj
      omega
    have hsame := lw_eq (u := lU (F j) S * lL (F p) S * (lU (F p) S).sign) (d := lL (F j) S * lU (F p) S * (lU (F p) S).sign) (x := G j) (s := S') hDp hS'p (by
      rw [hG j hj, hS']
      refine cancelL hS ?_
      grind)
    obtain ⟨m2, q1, q2, q3, q4⟩ := ih (i + nI 1) (putL m (44 * R + j) (lU (lU (F j) S * lL (F p) S * (lU (F p) S).sign) (lL (F j) S * lU (F p) S * (lU (F p) S).sign)) (lL (lU (F j) S * lL (F p) S * (lU (F p) S).sign) (lL (F j) S * lU (F p) S * (lU (F p) S).sign))) (inc hi) (fun k hk => by
      rw [putL_62, putL_63]
      by_cases e : k = j
      · rw [e, if_pos rfl, if_pos rfl, hsame.1, hsame.2]; exact ⟨rfl, rfl⟩
      · rw [if_neg (show ¬ 44 * R + k = 44 * R + j by omega), if_neg (show ¬ 44 * R + k = 44 * R + j by omega)]
        exact h1 k (by omega)) (fun k h5 h6 => by
      rw [putL_62, putL_63, if_neg (show ¬ 44 * R + k = 44 * R + j by omega), if_neg (show ¬ 44 * R + k = 44 * R + j by omega)]
      exact h2 k (by omega) h6)
    refine ⟨m2, fun rv mi' ml' K => g_r_laysRow_49 ⟨fun g => absurd g (by rw [hi, nI_leN (by decide) (by omega)]; omega), fun _ => ⟨v1, v1, _, _, R_puts hR hj h48 hi (lt63 hUl) ⟨hDp, hDl⟩ eU eD, q1 rv mi' ml' K⟩⟩, q2, fun t ht => ?_, fun a a1 a2 a3 => ?_⟩
    · have := q3 t ht
      rw [putL_62, putL_63, if_neg (show ¬ t = 44 * R + j by omega), if_neg (show ¬ t = 44 * R + j by omega)] at this
      exact this
    · rw [q4 a a1 a2 a3, putL_o _ _ _ _ a1 a2 a3]
end
