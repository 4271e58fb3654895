/-! ===== bits; small methods ===== -/
theorem bitsOf_lt (f : Nat → Bool) : ∀ n, bitsOf f n < 2 ^ n
  | 0 => by show 0 < 1; decide
  | n + 1 => by
    have := bitsOf_lt f n
    show bitsOf f n + (if f n then 2 ^ n else 0) < 2 ^ (n + 1)
    rw [Nat.pow_succ]
    split <;> omega
theorem bitsOf_at (f : Nat → Bool) {j : Nat} : ∀ n, j < n → bitsOf f n / 2 ^ j % 2 = if f j then 1 else 0
  | 0, h => by omega
  | n + 1, h => by
    show (bitsOf f n + (if f n then 2 ^ n else 0)) / 2 ^ j % 2 = _
    have hl := bitsOf_lt f n
    by_cases e : j = n
    · subst e
      cases hf : f j with
      | true =>
        rw [if_pos rfl, if_pos rfl, Nat.add_div_right _ (Nat.two_pow_pos j), Nat.div_eq_of_lt hl]
      | false =>
        simp only [Bool.false_eq_true, if_false, Nat.add_zero]
        rw [Nat.div_eq_of_lt hl]
    · rw [← bitsOf_at f n (by omega)]
      cases hf : f n with
      | true =>
        simp only [if_true]
        have e2 : 2 ^ n = 2 ^ j * (2 * 2 ^ (n - j - 1)) := by
          rw [← Nat.pow_succ', ← Nat.pow_add]; congr 1; omega
        rw [e2, Nat.add_mul_div_left _ _ (Nat.two_pow_pos j), Nat.add_mul_mod_self_left]
      | false => simp
theorem sh_am : ∀ j, j < 32 → ((nI j &&& 31).toBitVec.smod 32).toNat = j := by decide +kernel
theorem shl_am : ∀ j, j < 32 → ((nI j &&& 31 : Int32).toBitVec.smod 32).toNat = j := sh_am
theorem bit_at {b j : Nat} (hb : b < 2 ^ 31) (hj : j < 32) : (nI b >>> (nI j &&& 31)) &&& nI 1 = nI (b / 2 ^ j % 2) := by
  rw [pk_shrN hb _ j (sh_am j hj)]
  have h1 : b / 2 ^ j < 2 ^ 32 := Nat.lt_of_le_of_lt (Nat.div_le_self _ _) (Nat.lt_trans hb (by decide))
  exact pk_andN h1 (m := nI 1) 1 (by decide)
theorem p31 {n : Nat} (h : n ≤ 31) : 2 ^ n ≤ 2 ^ 31 := Nat.pow_le_pow_right (by decide) h
/-- a number of the script's, where the state has such a colour -/
def inN (σ : SG) (j : Int32) : Bool := decide (σ 0 0 = 1 ∧ 0 ≤ j.toInt ∧ j.toInt < σ 0 5)
theorem inN_t {σ : SG} {j : Int32} (h : InN σ j) : inN σ j = true := decide_eq_true h
theorem inN_f {σ : SG} {j : Int32} (h : ¬ InN σ j) : inN σ j = false := decide_eq_false h
/-- the class answers, and tells its trouble, nothing else -/
def EW (r0 : AV) (w c : Nat) (mr : MR) (mi : MI) (ml : ML) : Option AV → HP := fun r c' mr' mi' ml' => r = some r0 ∧ c' = c ∧ mr' = mr ∧ mi' = u2 mi 1 9 (nI w) ∧ ml' = ml
/-- the reference likewise -/
def T3 (mi : MI) (w : Nat) : MI := u2 (u2 (u2 mi 48 0 (nI 0)) 48 1 (nI w)) 48 2 (-(nI 1))
def ER (r0 : AV) (w c : Nat) (mr : MR) (mi : MI) (ml : ML) : Option AV → HP := fun r c' mr' mi' ml' => r = some r0 ∧ c' = c ∧ mr' = mr ∧ mi' = T3 mi w ∧ ml' = ml
theorem RMs_th {σ : SG} {mi : MI} (h : RMs σ mi) (x : Int32) : RMs σ (u2 mi 48 0 x) := h
theorem in31 {i : Nat} (h : i < 31) : vp_in (nI i) 31 := vp_in_nI h (by decide)
theorem cl31 {i : Nat} (h : i < 31) : (nI i).toNatClampNeg = i := nI_clamp (by omega)
theorem ti31 {i : Nat} (h : i < 31) : (nI i).toInt.toNat = i := by rw [nI_toInt (by omega)]; rfl
def sp_plate (σ : SG) (j : Int32) : Int32 × Nat := bif inN σ j then ((nI (plN (σ 0 6).toNat (σ 0 5).toNat j.toInt.toNat)), 0) else (-(nI 1), 1)
theorem cw_plate {nb db : Nat} (hb : nb = 43 ∧ db = 5 ∨ nb = 5 ∧ db = 43) {by_ rs : Option (Nat × Nat × Nat)} {c : Nat} {σ : SG} {mi : MI} {ml : ML} {j : Int32} (hW : WF σ) (hs : RCs σ mi) (hB : σ 0 0 = 1 → RCb σ nb mi) : Ok m_w_plate 0 0 [vR 10 0 1, vI j] (EW (vI (sp_plate σ j).1) (sp_plate σ j).2 c (MRc nb db by_ rs) mi ml) c (MRc nb db by_ rs) mi ml := by
  refine ok_wq inlT 200 rfl rfl ?_
  refine ⟨0, 0, Nat.zero_le _, Nat.zero_le _, k_haveOne hb hW hs hB (fun hin => ?_) (fun hout => ?_)⟩
  · obtain ⟨i, rfl, hi, h31⟩ := hin.nat hW
    have hBn := hB hin.1
    rcases hb with ⟨rfl, rfl⟩ | ⟨rfl, rfl⟩
    all_goals
      repeat' (first | (refine ⟨fun h => ?_, fun h => ?_⟩ <;> first | exact absurd h (by decide) | skip) | refine ⟨Or.inl rfl, ?_⟩ | refine ⟨Or.inr rfl, ?_⟩ | fail)
      refine ⟨in31 h31, ?_⟩
      unfold EW sp_plate
      rw [inN_t hin, cl31 h31]
      refine ⟨?_, rfl, rfl, rfl, rfl⟩
      have e := hBn.2.2.2.2.2.2.2.2.1 i hi
      show some (vI (mi _ i)) = some (vI (nI (plN (σ 0 6).toNat (σ 0 5).toNat (nI i).toInt.toNat)))
      rw [ti31 h31]
      exact congrArg (fun x => some (vI x)) e
  · repeat' (first | (refine ⟨fun h => ?_, fun h => ?_⟩ <;> first | exact absurd h (by decide) | skip) | refine ⟨Or.inl rfl, ?_⟩ | refine ⟨Or.inr rfl, ?_⟩ | fail)
    unfold EW sp_plate
    rw [inN_f hout]
    exact ⟨rfl, rfl, rfl, rfl, rfl⟩
theorem cr_plate {nb db : Nat} {by_ rs : Option (Nat × Nat × Nat)} {c : Nat} {σ : SG} {mi : MI} {ml : ML} {j : Int32} (hW : WF σ) (hs : RMs σ mi) (hB : RMb σ mi) : Ok m_r_plate 0 0 [vR 19 0 48, vI j] (ER (vI (sp_plate σ j).1) (sp_plate σ j).2 c (MRc nb db by_ rs) mi ml) c (MRc nb db by_ rs) mi ml := by
  refine ok_wq inlT 200 rfl rfl ?_
  refine ⟨0, 0, Nat.zero_le _, Nat.zero_le _, k_isOne hW (RMs_th hs _) (fun hin => ?_) (fun hout => ?_)⟩
  · obtain ⟨i, rfl, hi, h31⟩ := hin.nat hW
    repeat' (first | (refine ⟨fun h => ?_, fun h => ?_⟩ <;> first | exact absurd h (by decide) | skip) | refine ⟨Or.inl rfl, ?_⟩ | refine ⟨Or.inr rfl, ?_⟩ | fail)
    refine ⟨in31 h31, ?_⟩
    unfold ER sp_plate
    rw [inN_t hin, cl31 h31]
    refine ⟨?_, rfl, rfl, rfl, rfl⟩
    have e := hB.1 i hi
    show some (vI (mi 49 i)) = some (vI (nI (plN (σ 0 6).toNat (σ 0 5).toNat (nI i).toInt.toNat)))
    rw [ti31 h31]
    exact congrArg (fun x => some (vI x)) e
  · repeat' (first | (refine ⟨fun h => ?_, fun h => ?_⟩ <;> first | exact absurd h (by decide) | skip) | refine ⟨Or.inl rfl, ?_⟩ | refine ⟨Or.inr rfl, ?_⟩ | fail)
    unfold ER sp_plate
    rw [inN_f hout]
    exact ⟨rfl, rfl, rfl, rfl, rfl⟩
def sp_light (σ : SG) (j : Int32) : Int32 × Nat := bif inN σ j then ((zI (σ 1 j.toInt.toNat)), 0) else (-(nI 1), 1)
theorem cw_light {nb db : Nat} (hb : nb = 43 ∧ db = 5 ∨ nb = 5 ∧ db = 43) {by_ rs : Option (Nat × Nat × Nat)} {c : Nat} {σ : SG} {mi : MI} {ml : ML} {j : Int32} (hW : WF σ) (hs : RCs σ mi) (hB : σ 0 0 = 1 → RCb σ nb mi) : Ok m_w_light 0 0 [vR 10 0 1, vI j] (EW (vI (sp_light σ j).1) (sp_light σ j).2 c (MRc nb db by_ rs) mi ml) c (MRc nb db by_ rs) mi ml := by
  refine ok_wq inlT 200 rfl rfl ?_
  refine ⟨0, 0, Nat.zero_le _, Nat.zero_le _, k_haveOne hb hW hs hB (fun hin => ?_) (fun hout => ?_)⟩
  · obtain ⟨i, rfl, hi, h31⟩ := hin.nat hW
    have hBn := hB hin.1
    rcases hb with ⟨rfl, rfl⟩ | ⟨rfl, rfl⟩
    all_goals
      repeat' (first | (refine ⟨fun h => ?_, fun h => ?_⟩ <;> first | exact absurd h (by decide) | skip) | refine ⟨Or.inl rfl, ?_⟩ | refine ⟨Or.inr rfl, ?_⟩ | fail)
      refine ⟨in31 h31, ?_⟩
      unfold EW sp_light
      rw [inN_t hin, cl31 h31]
      refine ⟨?_, rfl, rfl, rfl, rfl⟩
      have e := hBn.2.2.2.2.2.2.2.2.2.1 i hi
      show some (vI (mi _ i)) = some (vI (zI (σ 1 (nI i).toInt.toNat)))
      rw [ti31 h31]
      exact congrArg (fun x => some (vI x)) e
  · repeat' (first | (refine ⟨fun h => ?_, fun h => ?_⟩ <;> first | exact absurd h (by decide) | skip) | refine ⟨Or.inl rfl, ?_⟩ | refine ⟨Or.inr rfl, ?_⟩ | fail)
    unfold EW sp_light
    rw [inN_f hout]
    exact ⟨rfl, rfl, rfl, rfl, rfl⟩
theorem cr_light {nb db : Nat} {by_ rs : Option (Nat × Nat × Nat)} {c : Nat} {σ : SG} {mi : MI} {ml : ML} {j : Int32} (hW : WF σ) (hs : RMs σ mi) (hB : RMb σ mi) : Ok m_r_light 0 0 [vR 19 0 48, vI j] (ER (vI (sp_light σ j).1) (sp_light σ j).2 c (MRc nb db by_ rs) mi ml) c (MRc nb db by_ rs) mi ml := by
  refine ok_wq inlT 200 rfl rfl ?_
  refine ⟨0, 0, Nat.zero_le _, Nat.zero_le _, k_isOne hW (RMs_th hs _) (fun hin => ?_) (fun hout => ?_)⟩
  · obtain ⟨i, rfl, hi, h31⟩ := hin.nat hW
    repeat' (first | (refine ⟨fun h => ?_, fun h => ?_⟩ <;> first | exact absurd h (by decide) | skip) | refine ⟨Or.inl rfl, ?_⟩ | refine ⟨Or.inr rfl, ?_⟩ | fail)
    refine ⟨vp_in_nI (by omega) (by decide), ?_⟩
    unfold ER sp_light
    rw [inN_t hin, cl31 h31]
    refine ⟨?_, rfl, rfl, rfl, rfl⟩
    have e := hB.2.1 i hi
    show some (vI (mi 54 i)) = some (vI (zI (σ 1 (nI i).toInt.toNat)))
    rw [ti31 h31]
    exact congrArg (fun x => some (vI x)) e
  · repeat' (first | (refine ⟨fun h => ?_, fun h => ?_⟩ <;> first | exact absurd h (by decide) | skip) | refine ⟨Or.inl rfl, ?_⟩ | refine ⟨Or.inr rfl, ?_⟩ | fail)
    unfold ER sp_light
    rw [inN_f hout]
    exact ⟨rfl, rfl, rfl, rfl, rfl⟩
def sp_noise (σ : SG) (j : Int32) : Int32 × Nat := bif inN σ j then ((zI (σ 3 j.toInt.toNat)), 0) else (-(nI 2147483648), 1)
theorem cw_noise {nb db : Nat} (hb : nb = 43 ∧ db = 5 ∨ nb = 5 ∧ db = 43) {by_ rs : Option (Nat × Nat × Nat)} {c : Nat} {σ : SG} {mi : MI} {ml : ML} {j : Int32} (hW : WF σ) (hs : RCs σ mi) (hB : σ 0 0 = 1 → RCb σ nb mi) : Ok m_w_noise 0 0 [vR 10 0 1, vI j] (EW (vI (sp_noise σ j).1) (sp_noise σ j).2 c (MRc nb db by_ rs) mi ml) c (MRc nb db by_ rs) mi ml := by
  refine ok_wq inlT 200 rfl rfl ?_
  refine ⟨0, 0, Nat.zero_le _, Nat.zero_le _, k_haveOne hb hW hs hB (fun hin => ?_) (fun hout => ?_)⟩
  · obtain ⟨i, rfl, hi, h31⟩ := hin.nat hW
    have hBn := hB hin.1
    rcases hb with ⟨rfl, rfl⟩ | ⟨rfl, rfl⟩
    all_goals
      repeat' (first | (refine ⟨fun h => ?_, fun h => ?_⟩ <;> first | exact absurd h (by decide) | skip) | refine ⟨Or.inl rfl, ?_⟩ | refine ⟨Or.inr rfl, ?_⟩ | fail)
      refine ⟨in31 h31, ?_⟩
      unfold EW sp_noise
      rw [inN_t hin, cl31 h31]
      refine ⟨?_, rfl, rfl, rfl, rfl⟩
      have e := hBn.2.2.2.2.2.2.2.2.2.2.1 i hi
      show some (vI (mi _ i)) = some (vI (zI (σ 3 (nI i).toInt.toNat)))
      rw [ti31 h31]
      exact congrArg (fun x => some (vI x)) e
  · repeat' (first | (refine ⟨fun h => ?_, fun h => ?_⟩ <;> first | exact absurd h (by decide) | skip) | refine ⟨Or.inl rfl, ?_⟩ | refine ⟨Or.inr rfl, ?_⟩ | fail)
    unfold EW sp_noise
    rw [inN_f hout]
    exact ⟨rfl, rfl, rfl, rfl, rfl⟩
theorem cr_noise {nb db : Nat} {by_ rs : Option (Nat × Nat × Nat)} {c : Nat} {σ : SG} {mi : MI} {ml : ML} {j : Int32} (hW : WF σ) (hs : RMs σ mi) (hB : RMb σ mi) : Ok m_r_noise 0 0 [vR 19 0 48, vI j] (ER (vI (sp_noise σ j).1) (sp_noise σ j).2 c (MRc nb db by_ rs) mi ml) c (MRc nb db by_ rs) mi ml := by
  refine ok_wq inlT 200 rfl rfl ?_
  refine ⟨0, 0, Nat.zero_le _, Nat.zero_le _, k_isOne hW (RMs_th hs _) (fun hin => ?_) (fun hout => ?_)⟩
  · obtain ⟨i, rfl, hi, h31⟩ := hin.nat hW
    repeat' (first | (refine ⟨fun h => ?_, fun h => ?_⟩ <;> first | exact absurd h (by decide) | skip) | refine ⟨Or.inl rfl, ?_⟩ | refine ⟨Or.inr rfl, ?_⟩ | fail)
    refine ⟨in31 h31, ?_⟩
    unfold ER sp_noise
    rw [inN_t hin, cl31 h31]
    refine ⟨?_, rfl, rfl, rfl, rfl⟩
    have e := hB.2.2.2.1 i hi
    show some (vI (mi 50 i)) = some (vI (zI (σ 3 (nI i).toInt.toNat)))
    rw [ti31 h31]
    exact congrArg (fun x => some (vI x)) e
  · repeat' (first | (refine ⟨fun h => ?_, fun h => ?_⟩ <;> first | exact absurd h (by decide) | skip) | refine ⟨Or.inl rfl, ?_⟩ | refine ⟨Or.inr rfl, ?_⟩ | fail)
    unfold ER sp_noise
    rw [inN_f hout]
    exact ⟨rfl, rfl, rfl, rfl, rfl⟩
