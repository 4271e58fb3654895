/-! ===== masks: rows that tell one pivot each, as determinants ===== -/
def SS (vs : List (Nat → Int)) (ps : List Nat) : Int := ((dt vs ps).natAbs : Int)
def PT (ps : List Nat) (t : Nat) : Nat := ps.getD (ps.length - 1 - t) 0
def XX (vs : List (Nat → Int)) (ps : List Nat) (t c : Nat) : Int := (dt vs ps).sign * dt vs (ps.set (ps.length - 1 - t) c)
def NW (v : Nat → Int) (vs : List (Nat → Int)) (ps : List Nat) (c : Nat) : Int := (dt vs ps).sign * dt (v :: vs) (c :: ps)
theorem sign_sq {d : Int} (h : d ≠ 0) : d.sign * d.sign = 1 := by
  rcases Int.lt_trichotomy d 0 with z | z | z
  · rw [Int.sign_eq_neg_one_iff_neg.mpr z]; rfl
  · exact absurd z h
  · rw [Int.sign_eq_one_iff_pos.mpr z]; rfl
theorem SS_pos {vs : List (Nat → Int)} {ps : List Nat} (h : dt vs ps ≠ 0) : 0 < SS vs ps := by unfold SS; omega
theorem set_at : ∀ (ps : List Nat) (h : Nat), h < ps.length → ∃ l1 l2, ps = l1 ++ ps.getD h 0 :: l2 ∧ l1.length = h ∧ ∀ c, ps.set h c = l1 ++ c :: l2
  | [], h, hh => absurd hh (Nat.not_lt_zero h)
  | p :: ps, 0, _ => ⟨[], ps, rfl, rfl, fun _ => rfl⟩
  | p :: ps, h + 1, hh => by
    obtain ⟨l1, l2, e1, e2, e3⟩ := set_at ps h (by simp at hh; omega)
    refine ⟨p :: l1, l2, ?_, by simp [e2], fun c => ?_⟩
    · show p :: ps = p :: (l1 ++ ps.getD h 0 :: l2)
      rw [← e1]
    · show p :: ps.set h c = p :: (l1 ++ c :: l2)
      rw [e3]
theorem XX_self {vs : List (Nat → Int)} {ps : List Nat} {t : Nat} (ht : t < ps.length) : XX vs ps t (PT ps t) = SS vs ps := by
  obtain ⟨l1, l2, e1, e2, e3⟩ := set_at ps (ps.length - 1 - t) (by omega)
  unfold XX PT SS
  rw [e3, ← e1, Int.sign_mul_self]
theorem mem_of_at {l1 l2 : List Nat} {q : Nat} {h : Nat} (hh : h ≠ l1.length) (hl : h < (l1 ++ q :: l2).length) : (l1 ++ q :: l2).getD h 0 ∈ l1 ∨ (l1 ++ q :: l2).getD h 0 ∈ l2 := by
  rw [List.getD_eq_getElem?_getD]
  by_cases g : h < l1.length
  · left
    rw [List.getElem?_append_left g, List.getElem?_eq_getElem g]
    exact List.getElem_mem g
  · right
    rw [List.getElem?_append_right (by omega)]
    obtain ⟨d, hd⟩ : ∃ d, h - l1.length = d + 1 := ⟨h - l1.length - 1, by omega⟩
    rw [hd, List.getElem?_cons_succ]
    have g2 : d < l2.length := by simp at hl; omega
    rw [List.getElem?_eq_getElem g2]
    exact List.getElem_mem g2
theorem XX_other {vs : List (Nat → Int)} {ps : List Nat} {t u : Nat} (ht : t < ps.length) (hu : u < ps.length) (h : t ≠ u) : XX vs ps t (PT ps u) = 0 := by
  obtain ⟨l1, l2, e1, e2, e3⟩ := set_at ps (ps.length - 1 - t) (by omega)
  unfold XX
  rw [e3]
  have hm : PT ps u ∈ l1 ∨ PT ps u ∈ l2 := by
    unfold PT
    have key : ∀ (L : List Nat) (q : Nat), L = l1 ++ q :: l2 → ∀ k, k ≠ l1.length → k < L.length → L.getD k 0 ∈ l1 ∨ L.getD k 0 ∈ l2 := by
      intro L q hL k h1 h2
      rw [hL] at h2 ⊢
      exact mem_of_at h1 h2
    exact key ps _ e1 _ (by omega) (by omega)
  rw [AS_mid (AS_dt vs) hm, Int.mul_zero]
theorem sumZ_rev (f : Nat → Int) : ∀ n, sumZ f n = sumZ (fun h => f (n - 1 - h)) n
  | 0 => rfl
  | n + 1 => by
    rw [sumZ_head (fun h => f (n + 1 - 1 - h)) n]
    show sumZ f n + f n = f (n + 1 - 1 - 0) + sumZ (fun i => f (n + 1 - 1 - (i + 1))) n
    rw [sumZ_rev f n, sumZ_e2 (fun h => f (n - 1 - h)) (fun i => f (n + 1 - 1 - (i + 1))) n (fun i _ => by
      show f (n - 1 - i) = f (n + 1 - 1 - (i + 1))
      congr 1; omega)]
    show _ = f n + _
    omega
theorem sumZ_m2 (a : Int) (f : Nat → Int) : ∀ n, a * sumZ f n = sumZ (fun i => a * f i) n
  | 0 => by simp [sumZ]
  | n + 1 => by
    show a * (sumZ f n + f n) = sumZ (fun i => a * f i) n + a * f n
    rw [Int.mul_add, sumZ_m2 a f n]
/-- the new row: the mask, less what the rows ahead tell of it -/
theorem NW_eq (v : Nat → Int) (vs : List (Nat → Int)) (ps : List Nat) (c : Nat) : NW v vs ps c = SS vs ps * v c - sumZ (fun t => v (PT ps t) * XX vs ps t c) ps.length := by
  unfold NW
  rw [dt_new, Int.mul_sub, sumZ_m2, sumZ_rev (fun t => v (PT ps t) * XX vs ps t c) ps.length]
  have e1 : (dt vs ps).sign * (v c * dt vs ps) = SS vs ps * v c := by
    unfold SS
    rw [← Int.sign_mul_self]; grind
  have e2 : sumZ (fun i => (dt vs ps).sign * (v (ps.getD i 0) * dt vs (ps.set i c))) ps.length = sumZ (fun h => v (PT ps (ps.length - 1 - h)) * XX vs ps (ps.length - 1 - h) c) ps.length := sumZ_e2 _ _ _ (fun i hi => by
    show (dt vs ps).sign * (v (ps.getD i 0) * dt vs (ps.set i c)) = v (ps.getD (ps.length - 1 - (ps.length - 1 - i)) 0) * ((dt vs ps).sign * dt vs (ps.set (ps.length - 1 - (ps.length - 1 - i)) c))
    rw [show ps.length - 1 - (ps.length - 1 - i) = i by omega]; grind)
  rw [e1, e2]
theorem NW_ne {v : Nat → Int} {vs : List (Nat → Int)} {ps : List Nat} {c : Nat} (h : dt vs ps ≠ 0) : NW v vs ps c = 0 ↔ dt (v :: vs) (c :: ps) = 0 := by
  unfold NW
  constructor
  · intro e
    rcases Int.mul_eq_zero.mp e with z | z
    · have := sign_sq h; rw [z] at this; cases this
    · exact z
  · intro e; rw [e, Int.mul_zero]
theorem SS_new {v : Nat → Int} {vs : List (Nat → Int)} {ps : List Nat} {p : Nat} (h : dt vs ps ≠ 0) : SS (v :: vs) (p :: ps) = ((NW v vs ps p).natAbs : Int) := by
  unfold SS NW
  rw [Int.natAbs_mul, Int.natAbs_sign_of_ne_zero h, Nat.one_mul]
theorem XX_new {v : Nat → Int} {vs : List (Nat → Int)} {ps : List Nat} {p : Nat} (h : dt vs ps ≠ 0) (c : Nat) : XX (v :: vs) (p :: ps) ps.length c = (NW v vs ps p).sign * NW v vs ps c := by
  unfold XX NW
  rw [List.length_cons, show ps.length + 1 - 1 - ps.length = 0 by omega, Int.sign_mul, Int.sign_sign]
  show (dt (v :: vs) (p :: ps)).sign * dt (v :: vs) (c :: ps) = _
  have := sign_sq h
  grind
theorem XX_old {v : Nat → Int} {vs : List (Nat → Int)} {ps : List Nat} {p : Nat} (hP : Piv vs ps) (hp : dt (v :: vs) (p :: ps) ≠ 0) {t : Nat} (ht : t < ps.length) (c : Nat) :
    SS vs ps * XX (v :: vs) (p :: ps) t c = SS (v :: vs) (p :: ps) * XX vs ps t c - XX vs ps t p * XX (v :: vs) (p :: ps) ps.length c := by
  have h := Piv_ne hP
  obtain ⟨l1, l2, e1, e2, e3⟩ := set_at ps (ps.length - 1 - t) (by omega)
  have e4 : XX (v :: vs) (p :: ps) t c = (dt (v :: vs) (p :: ps)).sign * dt (v :: vs) (p :: (l1 ++ c :: l2)) := by
    unfold XX
    rw [List.length_cons, show ps.length + 1 - 1 - t = (ps.length - 1 - t) + 1 by omega]
    show _ * dt (v :: vs) (p :: ps.set (ps.length - 1 - t) c) = _
    rw [e3]
  have e5 : XX (v :: vs) (p :: ps) ps.length c = (dt (v :: vs) (p :: ps)).sign * dt (v :: vs) (c :: ps) := by
    unfold XX
    rw [List.length_cons, show ps.length + 1 - 1 - ps.length = 0 by omega]; rfl
  have e6 : ∀ x, XX vs ps t x = (dt vs ps).sign * dt vs (l1 ++ x :: l2) := fun x => by unfold XX; rw [e3]
  have sy := dt_syl (v := v) (vs := vs) (p := p) (q := ps.getD (ps.length - 1 - t) 0) (l1 := l1) (l2 := l2) (by rw [← e1]; exact And.intro hP hp) c
  rw [← e1] at sy
  rw [e4, e5, e6 c, e6 p]
  unfold SS
  rw [← Int.sign_mul_self, ← Int.sign_mul_self]
  grind
/-! bounds -/
def wt43 (q : Nat) : Nat := if q = 43 then 309969 else 1
theorem prW_1 : ∀ ps : List Nat, (∀ q ∈ ps, q < 43) → prW wt43 ps = 1
  | [], _ => rfl
  | p :: ps, h => by
    have := h p List.mem_cons_self
    show wt43 p * prW wt43 ps = 1
    rw [prW_1 ps (fun q hq => h q (List.mem_cons_of_mem _ hq))]
    unfold wt43; rw [if_neg (by omega)]
theorem prW_app : ∀ (l1 l2 : List Nat) (c : Nat), prW wt43 (l1 ++ c :: l2) = wt43 c * prW wt43 (l1 ++ l2)
  | [], l2, c => rfl
  | p :: l1, l2, c => by
    show wt43 p * prW wt43 (l1 ++ c :: l2) = wt43 c * (wt43 p * prW wt43 (l1 ++ l2))
    rw [prW_app l1 l2 c, Nat.mul_left_comm]
theorem prW_set {ps : List Nat} (h : ∀ q ∈ ps, q < 43) {i : Nat} (hi : i < ps.length) (c : Nat) : prW wt43 (ps.set i c) = wt43 c := by
  obtain ⟨l1, l2, e1, e2, e3⟩ := set_at ps i hi
  rw [e3, prW_app, prW_1 (l1 ++ l2) (fun q hq => h q (by
    rw [e1]
    rcases List.mem_append.mp hq with z | z
    · exact List.mem_append.mpr (Or.inl z)
    · exact List.mem_append.mpr (Or.inr (List.mem_cons_of_mem _ z)))), Nat.mul_one]
/-- rows that may stand there -/
def okR (vs : List (Nat → Int)) : Prop := ∀ v ∈ vs, ∀ q, 0 ≤ v q ∧ v q ≤ wt43 q
theorem sgn_le (d x : Int) : (d.sign * x).natAbs ≤ x.natAbs := by
  rw [Int.natAbs_mul]
  have : d.sign.natAbs ≤ 1 := by rw [Int.natAbs_sign]; split <;> omega
  calc d.sign.natAbs * x.natAbs ≤ 1 * x.natAbs := Nat.mul_le_mul_right _ this
    _ = x.natAbs := Nat.one_mul _
theorem SS_bd {vs : List (Nat → Int)} {ps : List Nat} (hv : okR vs) (hp : ∀ q ∈ ps, q < 43) (hl : ps.length = vs.length) : SS vs ps ≤ bb vs.length := by
  have := dt_bdW (wt := wt43) vs ps hv hl
  rw [prW_1 ps hp, Nat.mul_one] at this
  unfold SS; omega
theorem XX_bd {vs : List (Nat → Int)} {ps : List Nat} (hv : okR vs) (hp : ∀ q ∈ ps, q < 43) (hl : ps.length = vs.length) {t : Nat} (ht : t < ps.length) (c : Nat) : (XX vs ps t c).natAbs ≤ bb vs.length * wt43 c := by
  have := dt_bdW (wt := wt43) vs (ps.set (ps.length - 1 - t) c) hv (by rw [List.length_set]; exact hl)
  rw [prW_set hp (by omega)] at this
  exact Nat.le_trans (sgn_le _ _) this
theorem NW_bd {v : Nat → Int} {vs : List (Nat → Int)} {ps : List Nat} (hv : okR (v :: vs)) (hp : ∀ q ∈ ps, q < 43) (hl : ps.length = vs.length) (c : Nat) : (NW v vs ps c).natAbs ≤ bb (vs.length + 1) * wt43 c := by
  have := dt_bdW (wt := wt43) (v :: vs) (c :: ps) hv (by simp [hl])
  have e : prW wt43 (c :: ps) = wt43 c := by
    show wt43 c * prW wt43 ps = _
    rw [prW_1 ps hp, Nat.mul_one]
  rw [e] at this
  exact Nat.le_trans (sgn_le _ _) this
theorem bb_11 : ∀ n, n ≤ 11 → bb n ≤ 1247400 := by decide
theorem bb_12 : ∀ n, n ≤ 12 → bb n ≤ 7484400 := by decide
