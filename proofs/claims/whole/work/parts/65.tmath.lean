/-! ===== tours: bits, least of many, the fewest moves ===== -/
theorem xb_p (l p : Nat) (hp : p % 2 = 0) : (l ^^^ p) % 2 = l % 2 := by
  have h := @Nat.xor_mod_two_eq_one l p
  have : ¬ p % 2 = 1 := by omega
  rcases Nat.mod_two_eq_zero_or_one l with z | z
  · have h2 : ¬ (l ^^^ p) % 2 = 1 := fun g => (h.mp g) ⟨fun y => by omega, fun y => by omega⟩
    omega
  · exact (h.mpr (fun g => by have := g.mp z; omega)).trans z.symm
theorem xb_1 (l : Nat) (h : l % 2 = 1) : (l ^^^ 1) % 2 = 0 := by
  have h0 := @Nat.xor_mod_two_eq_one l 1
  have h2 : ¬ (l ^^^ 1) % 2 = 1 := fun g => (h0.mp g) ⟨fun _ => rfl, fun _ => h⟩
  omega
theorem bt_s (l m : Nat) : bt l (m + 1) = bt (l / 2) m := by
  unfold bt
  rw [Nat.pow_succ, Nat.mul_comm, ← Nat.div_div_eq_div_mul]
theorem xb_d (l m : Nat) : (l ^^^ 2 ^ (m + 1)) / 2 = l / 2 ^^^ 2 ^ m := by
  rw [Nat.xor_div_two, Nat.pow_succ, Nat.mul_div_cancel _ (by decide)]
theorem xb_e (m : Nat) : 2 ^ (m + 1) % 2 = 0 := by rw [Nat.pow_succ]; omega
theorem xb : ∀ m l, bt l m = 1 → (l ^^^ 2 ^ m) + 2 ^ m = l
  | 0, l, h => by
    have h1 : l % 2 = 1 := by unfold bt at h; simpa using h
    have e1 := xb_1 l h1
    have e2 : (l ^^^ 1) / 2 = l / 2 := by rw [Nat.xor_div_two]; simp
    show (l ^^^ 1) + 1 = l
    omega
  | m + 1, l, h => by
    rw [bt_s] at h
    have ih := xb m (l / 2) h
    have e1 := xb_p l (2 ^ (m + 1)) (xb_e m)
    have e2 := xb_d l m
    have e3 : 2 ^ (m + 1) = 2 * 2 ^ m := by rw [Nat.pow_succ, Nat.mul_comm]
    omega
theorem xb_lt {m l : Nat} (h : bt l m = 1) : (l ^^^ 2 ^ m) < l := by
  have := xb m l h
  have := Nat.two_pow_pos m
  omega
theorem xb_pc : ∀ k m l, m < k → bt l m = 1 → pcN k (l ^^^ 2 ^ m) + 1 = pcN k l
  | 0, m, _, h, _ => absurd h (by omega)
  | k + 1, 0, l, _, h => by
    have h1 : l % 2 = 1 := by unfold bt at h; simpa using h
    have e1 := xb_1 l h1
    have e2 : (l ^^^ 1) / 2 = l / 2 := by rw [Nat.xor_div_two]; simp
    show (l ^^^ 1) % 2 + pcN k ((l ^^^ 1) / 2) + 1 = l % 2 + pcN k (l / 2)
    rw [e1, e2, h1]; omega
  | k + 1, m + 1, l, h, hb => by
    rw [bt_s] at hb
    have ih := xb_pc k m (l / 2) (by omega) hb
    show (l ^^^ 2 ^ (m + 1)) % 2 + pcN k ((l ^^^ 2 ^ (m + 1)) / 2) + 1 = l % 2 + pcN k (l / 2)
    rw [xb_p l (2 ^ (m + 1)) (xb_e m), xb_d, ← ih]; omega
theorem pc_full : ∀ k, pcN k (2 ^ k - 1) = k
  | 0 => rfl
  | k + 1 => by
    have hp := Nat.two_pow_pos k
    have e : 2 ^ (k + 1) = 2 * 2 ^ k := by rw [Nat.pow_succ, Nat.mul_comm]
    show (2 ^ (k + 1) - 1) % 2 + pcN k ((2 ^ (k + 1) - 1) / 2) = k + 1
    rw [show (2 ^ (k + 1) - 1) % 2 = 1 by omega, show (2 ^ (k + 1) - 1) / 2 = 2 ^ k - 1 by omega, pc_full k]; omega
theorem pc_ex : ∀ k n, 0 < pcN k n → ∃ m, m < k ∧ bt n m = 1
  | 0, n, h => absurd h (Nat.lt_irrefl 0)
  | k + 1, n, h => by
    have h : 0 < n % 2 + pcN k (n / 2) := h
    rcases Nat.mod_two_eq_zero_or_one n with z | z
    · obtain ⟨m, h1, h2⟩ := pc_ex k (n / 2) (by omega)
      exact ⟨m + 1, by omega, by rw [bt_s]; exact h2⟩
    · exact ⟨0, by omega, by unfold bt; simpa using z⟩
theorem bt_x {l m j : Nat} (h : bt l m = 1) : bt (l ^^^ 2 ^ m) j = if j = m then 0 else bt l j := by
  rw [bt_tb, bt_tb, Nat.testBit_xor, Nat.testBit_two_pow]
  by_cases e : j = m
  · subst e
    rw [if_pos rfl]
    rw [bt_tb] at h
    cases hb : l.testBit j with
    | true => simp
    | false => rw [hb] at h; exact absurd h (by decide)
  · rw [if_neg e]
    have : decide (m = j) = false := decide_eq_false (fun z => e z.symm)
    rw [this]; simp
/-- what isn't left is done -/
def cpl (K L : Nat) : Nat := 2 ^ K - (L + 1)
theorem cpl_bt {K L m : Nat} (hL : L < 2 ^ K) (hm : m < K) : bt (cpl K L) m = 1 - bt L m := by
  unfold cpl
  rw [bt_tb, bt_tb, Nat.testBit_two_pow_sub_succ hL]
  cases L.testBit m <;> simp [hm]
theorem cpl_or {K L m : Nat} (hL : L < 2 ^ K) (hm : m < K) (h : bt L m = 1) : cpl K L ||| 2 ^ m = cpl K (L ^^^ 2 ^ m) := by
  have hx := xb_lt h
  unfold cpl
  apply Nat.eq_of_testBit_eq
  intro i
  rw [Nat.testBit_or, Nat.testBit_two_pow_sub_succ hL, Nat.testBit_two_pow_sub_succ (by omega), Nat.testBit_xor, Nat.testBit_two_pow]
  by_cases e : m = i
  · subst e
    rw [bt_tb] at h
    cases hb : L.testBit m with
    | true => simp [hm]
    | false => rw [hb] at h; exact absurd h (by decide)
  · simp [e]
/-- the least of those that count -/
def mnB (P : Nat → Bool) (v : Nat → Nat) : Nat → Option Nat
  | 0 => none
  | j + 1 => match P j with
    | false => mnB P v j
    | true => match mnB P v j with
      | none => some (v j)
      | some w => some (if v j < w then v j else w)
def vlO : Option Nat → Nat
  | none => 0
  | some w => w
theorem mnB_f {P : Nat → Bool} {v : Nat → Nat} {j : Nat} (h : P j = false) : mnB P v (j + 1) = mnB P v j := by
  show (match P j with | false => mnB P v j | true => _) = _
  rw [h]
theorem mnB_n {P : Nat → Bool} {v : Nat → Nat} {j : Nat} (h : P j = true) (e : mnB P v j = none) : mnB P v (j + 1) = some (v j) := by
  show (match P j with | false => mnB P v j | true => (match mnB P v j with | none => some (v j) | some w => some (if v j < w then v j else w))) = _
  rw [h, e]
theorem mnB_s {P : Nat → Bool} {v : Nat → Nat} {j w : Nat} (h : P j = true) (e : mnB P v j = some w) : mnB P v (j + 1) = some (if v j < w then v j else w) := by
  show (match P j with | false => mnB P v j | true => (match mnB P v j with | none => some (v j) | some w => some (if v j < w then v j else w))) = _
  rw [h, e]
theorem mnB_c {P : Nat → Bool} {v v' : Nat → Nat} : ∀ n, (∀ j, j < n → P j = true → v j = v' j) → mnB P v n = mnB P v' n
  | 0, _ => rfl
  | n + 1, h => by
    have ih := mnB_c n (fun j hj => h j (by omega))
    cases hp : P n with
    | false => rw [mnB_f hp, mnB_f hp, ih]
    | true =>
      cases e : mnB P v' n with
      | none => rw [mnB_n hp (ih.trans e), mnB_n hp e, h n (by omega) hp]
      | some w => rw [mnB_s hp (ih.trans e), mnB_s hp e, h n (by omega) hp]
theorem mnB_sp {P : Nat → Bool} {v : Nat → Nat} : ∀ n w, mnB P v n = some w → (∀ j, j < n → P j = true → w ≤ v j) ∧ ∃ j, j < n ∧ P j = true ∧ v j = w
  | 0, w, h => by cases h
  | n + 1, w, h => by
    cases hp : P n with
    | false =>
      rw [mnB_f hp] at h
      obtain ⟨h1, j, h2, h3, h4⟩ := mnB_sp n w h
      refine ⟨fun i hi hpi => ?_, j, by omega, h3, h4⟩
      by_cases e : i = n
      · subst e; rw [hp] at hpi; cases hpi
      · exact h1 i (by omega) hpi
    | true =>
      cases e : mnB P v n with
      | none =>
        rw [mnB_n hp e] at h
        cases h
        refine ⟨fun i hi hpi => ?_, n, by omega, hp, rfl⟩
        by_cases e2 : i = n
        · subst e2; exact Nat.le_refl _
        · exfalso
          have hno : ∀ m, mnB P v m = none → ∀ j, j < m → P j = true → False := by
            intro m
            induction m with
            | zero => intro _ j hj; omega
            | succ m ih =>
              intro hm j hj hpj
              cases hq : P m with
              | false =>
                rw [mnB_f hq] at hm
                by_cases e3 : j = m
                · subst e3; rw [hq] at hpj; cases hpj
                · exact ih hm j (by omega) hpj
              | true =>
                cases e4 : mnB P v m with
                | none => rw [mnB_n hq e4] at hm; cases hm
                | some z => rw [mnB_s hq e4] at hm; cases hm
          exact hno n e i (by omega) hpi
      | some z =>
        rw [mnB_s hp e] at h
        obtain ⟨h1, j, h2, h3, h4⟩ := mnB_sp n z e
        have hw : w = if v n < z then v n else z := (Option.some.inj h).symm
        by_cases g : v n < z
        · rw [if_pos g] at hw
          refine ⟨fun i hi hpi => ?_, n, by omega, hp, hw.symm⟩
          by_cases e2 : i = n
          · subst e2; omega
          · have := h1 i (by omega) hpi; omega
        · rw [if_neg g] at hw
          refine ⟨fun i hi hpi => ?_, j, by omega, h3, by omega⟩
          by_cases e2 : i = n
          · subst e2; omega
          · have := h1 i (by omega) hpi; omega
theorem mnB_ex {P : Nat → Bool} {v : Nat → Nat} : ∀ n, (∃ j, j < n ∧ P j = true) → ∃ w, mnB P v n = some w
  | 0, ⟨j, h, _⟩ => absurd h (by omega)
  | n + 1, ⟨j, h, hp⟩ => by
    cases hq : P n with
    | false =>
      have : j ≠ n := fun e => by subst e; rw [hq] at hp; cases hp
      obtain ⟨w, hw⟩ := mnB_ex (P := P) (v := v) n ⟨j, by omega, hp⟩
      exact ⟨w, by rw [mnB_f hq]; exact hw⟩
    | true =>
      cases e : mnB P v n with
      | none => exact ⟨_, mnB_n hq e⟩
      | some z => exact ⟨_, mnB_s hq e⟩
theorem mnB_no {P : Nat → Bool} {v : Nat → Nat} : ∀ n, (∀ j, j < n → P j = false) → mnB P v n = none
  | 0, _ => rfl
  | n + 1, h => by rw [mnB_f (h n (by omega))]; exact mnB_no n (fun j hj => h j (by omega))
/-- moves from a mask (12: all shut) to a mask -/
def dT (K : Nat) (μ : Nat → Nat) (a m : Nat) : Nat := pcN 32 ((if a < K then μ a else 0) ^^^ μ m)
def isB (l m : Nat) : Bool := bt l m == 1
theorem isB_t {l m : Nat} : isB l m = true ↔ bt l m = 1 := by unfold isB; simp
theorem isB_f {l m : Nat} : isB l m = false ↔ bt l m = 0 := by
  unfold isB
  rcases bt_01 l m with z | z <;> rw [z] <;> decide
def gT (K : Nat) (μ : Nat → Nat) : Nat → Nat → Nat → Nat
  | 0, _, _ => 0
  | f + 1, a, l => vlO (mnB (isB l) (fun m => dT K μ a m + gT K μ f m (l ^^^ 2 ^ m)) K)
/-- the fewest moves from a mask through all that are left -/
def tgo (K : Nat) (μ : Nat → Nat) (a l : Nat) : Nat := gT K μ l a l
theorem bt_0 (m : Nat) : bt 0 m = 0 := by unfold bt; simp
theorem gT_st (K : Nat) (μ : Nat → Nat) : ∀ n f, f < n → ∀ l, l ≤ f → ∀ a, gT K μ f a l = gT K μ l a l
  | 0, f, h, _, _, _ => absurd h (by omega)
  | n + 1, f, h, l, hl, a => by
    cases l with
    | zero =>
      cases f with
      | zero => rfl
      | succ f =>
        show vlO (mnB (isB 0) _ K) = 0
        rw [mnB_no K (fun j _ => isB_f.mpr (bt_0 j))]; rfl
    | succ l =>
      cases f with
      | zero => omega
      | succ f =>
        show vlO (mnB (isB (l + 1)) (fun m => dT K μ a m + gT K μ f m ((l + 1) ^^^ 2 ^ m)) K) = vlO (mnB (isB (l + 1)) (fun m => dT K μ a m + gT K μ l m ((l + 1) ^^^ 2 ^ m)) K)
        congr 1
        refine mnB_c K (fun j _ hp => ?_)
        have hx := xb_lt (isB_t.mp hp)
        show dT K μ a j + gT K μ f j ((l + 1) ^^^ 2 ^ j) = dT K μ a j + gT K μ l j ((l + 1) ^^^ 2 ^ j)
        rw [gT_st K μ n f (by omega) _ (by omega) j, gT_st K μ n l (by omega) _ (by omega) j]
def vT (K : Nat) (μ : Nat → Nat) (a l m : Nat) : Nat := dT K μ a m + tgo K μ m (l ^^^ 2 ^ m)
theorem tgo_eq (K : Nat) (μ : Nat → Nat) (a l : Nat) : tgo K μ a l = vlO (mnB (isB l) (vT K μ a l) K) := by
  cases l with
  | zero => rw [mnB_no K (fun j _ => isB_f.mpr (bt_0 j))]; rfl
  | succ l =>
    show vlO (mnB (isB (l + 1)) (fun m => dT K μ a m + gT K μ l m ((l + 1) ^^^ 2 ^ m)) K) = _
    congr 1
    refine mnB_c K (fun j _ hp => ?_)
    have hx := xb_lt (isB_t.mp hp)
    show dT K μ a j + gT K μ l j ((l + 1) ^^^ 2 ^ j) = dT K μ a j + gT K μ ((l + 1) ^^^ 2 ^ j) j ((l + 1) ^^^ 2 ^ j)
    rw [gT_st K μ (l + 1) l (by omega) _ (by omega) j]
theorem dT_le (K : Nat) (μ : Nat → Nat) (a m : Nat) : dT K μ a m ≤ 32 := pcN_le 32 _
theorem gT_le (K : Nat) (μ : Nat → Nat) : ∀ f a l, gT K μ f a l ≤ 32 * f
  | 0, _, _ => Nat.le_refl 0
  | f + 1, a, l => by
    show vlO (mnB (isB l) (fun m => dT K μ a m + gT K μ f m (l ^^^ 2 ^ m)) K) ≤ _
    cases e : mnB (isB l) (fun m => dT K μ a m + gT K μ f m (l ^^^ 2 ^ m)) K with
    | none => exact Nat.zero_le _
    | some w =>
      obtain ⟨-, j, -, -, h⟩ := mnB_sp K w e
      have h1 := dT_le K μ a j
      have h2 := gT_le K μ f j (l ^^^ 2 ^ j)
      show w ≤ _
      have h : dT K μ a j + gT K μ f j (l ^^^ 2 ^ j) = w := h
      omega
theorem tgo_le (K : Nat) (μ : Nat → Nat) (a l : Nat) : tgo K μ a l ≤ 32 * l := gT_le K μ l a l
theorem vT_le {K : Nat} {μ : Nat → Nat} {a l m : Nat} (h : bt l m = 1) : vT K μ a l m ≤ 32 * l + 32 := by
  have h1 := dT_le K μ a m
  have h2 := tgo_le K μ m (l ^^^ 2 ^ m)
  have h3 := xb_lt h
  unfold vT; omega
theorem tgo_ex {K : Nat} {μ : Nat → Nat} {a l : Nat} (h : ∃ m, m < K ∧ bt l m = 1) : (∀ m, m < K → bt l m = 1 → tgo K μ a l ≤ vT K μ a l m) ∧ ∃ m, m < K ∧ bt l m = 1 ∧ vT K μ a l m = tgo K μ a l := by
  obtain ⟨m, h1, h2⟩ := h
  obtain ⟨w, hw⟩ := mnB_ex (P := isB l) (v := vT K μ a l) K ⟨m, h1, isB_t.mpr h2⟩
  have e : tgo K μ a l = w := by rw [tgo_eq, hw]; rfl
  obtain ⟨g1, j, g2, g3, g4⟩ := mnB_sp K w hw
  rw [e]
  exact ⟨fun m hm hb => g1 m hm (isB_t.mpr hb), j, g2, isB_t.mp g3, g4⟩
/-- the first that will do -/
def fsB (p : Nat → Bool) : Nat → Nat → Nat
  | 0, _ => 0
  | d + 1, j => if p j = true then j else fsB p d (j + 1)
theorem fsB_sp {p : Nat → Bool} : ∀ d j, (∃ m, j ≤ m ∧ m < j + d ∧ p m = true) → p (fsB p d j) = true ∧ j ≤ fsB p d j ∧ fsB p d j < j + d
  | 0, j, ⟨m, h1, h2, _⟩ => absurd h1 (by omega)
  | d + 1, j, ⟨m, h1, h2, h3⟩ => by
    show p (if p j = true then j else fsB p d (j + 1)) = true ∧ j ≤ (if p j = true then j else fsB p d (j + 1)) ∧ (if p j = true then j else fsB p d (j + 1)) < j + (d + 1)
    by_cases e : p j = true
    · rw [if_pos e]; exact ⟨e, Nat.le_refl _, by omega⟩
    · rw [if_neg e]
      have : m ≠ j := fun z => e (z ▸ h3)
      obtain ⟨g1, g2, g3⟩ := fsB_sp (p := p) d (j + 1) ⟨m, by omega, by omega, h3⟩
      exact ⟨g1, by omega, by omega⟩
def nxP (K : Nat) (μ : Nat → Nat) (a l m : Nat) : Bool := isB l m && (vT K μ a l m == tgo K μ a l)
def nxT (K : Nat) (μ : Nat → Nat) (a l : Nat) : Nat := fsB (nxP K μ a l) K 0
theorem nxP_t {K : Nat} {μ : Nat → Nat} {a l m : Nat} : nxP K μ a l m = true ↔ bt l m = 1 ∧ vT K μ a l m = tgo K μ a l := by
  unfold nxP; rw [Bool.and_eq_true, isB_t]; simp
/-- the tour: the mask that is looked at last, those that are left -/
def wkS (K : Nat) (μ : Nat → Nat) : Nat → Nat × Nat
  | 0 => (12, 2 ^ K - 1)
  | i + 1 => (nxT K μ (wkS K μ i).1 (wkS K μ i).2, (wkS K μ i).2 ^^^ 2 ^ nxT K μ (wkS K μ i).1 (wkS K μ i).2)
theorem nx_sp {K : Nat} {μ : Nat → Nat} {a l : Nat} (h : 0 < pcN K l) : nxT K μ a l < K ∧ bt l (nxT K μ a l) = 1 ∧ vT K μ a l (nxT K μ a l) = tgo K μ a l := by
  obtain ⟨-, m, h1, h2, h3⟩ := tgo_ex (K := K) (μ := μ) (a := a) (l := l) (pc_ex K l h)
  obtain ⟨g1, g2, g3⟩ := fsB_sp (p := nxP K μ a l) K 0 ⟨m, by omega, by omega, nxP_t.mpr ⟨h2, h3⟩⟩
  obtain ⟨g4, g5⟩ := nxP_t.mp g1
  exact ⟨by unfold nxT; omega, g4, g5⟩
theorem wk_sp (K : Nat) (μ : Nat → Nat) : ∀ i, i ≤ K → (wkS K μ i).2 < 2 ^ K ∧ pcN K (wkS K μ i).2 = K - i ∧ ((wkS K μ i).1 < K ∨ (i = 0 ∧ (wkS K μ i).1 = 12))
  | 0, _ => ⟨by have := Nat.two_pow_pos K; show 2 ^ K - 1 < 2 ^ K; omega, by show pcN K (2 ^ K - 1) = K - 0; rw [pc_full]; rfl, Or.inr ⟨rfl, rfl⟩⟩
  | i + 1, h => by
    obtain ⟨h1, h2, -⟩ := wk_sp K μ i (by omega)
    obtain ⟨g1, g2, -⟩ := nx_sp (K := K) (μ := μ) (a := (wkS K μ i).1) (l := (wkS K μ i).2) (by omega)
    have hx := xb_lt g2
    have hp := xb_pc K _ _ g1 g2
    refine ⟨?_, ?_, Or.inl g1⟩
    · show (wkS K μ i).2 ^^^ 2 ^ nxT K μ (wkS K μ i).1 (wkS K μ i).2 < 2 ^ K; omega
    · show pcN K ((wkS K μ i).2 ^^^ 2 ^ nxT K μ (wkS K μ i).1 (wkS K μ i).2) = K - (i + 1); omega
