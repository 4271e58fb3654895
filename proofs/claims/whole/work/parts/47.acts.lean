/-! ===== acts: the whole invariants; bits changed ===== -/
/-- acts kept, the oldest first: sort (0 light, 1 shutter, 2 loss), number, what was before -/
def WA (σ : SG) : Prop := ∀ i : Nat, (i : Int) < σ 0 15 → (0 ≤ σ 10 i ∧ σ 10 i < σ 0 5) ∧ ((σ 9 i = 0 ∧ 0 ≤ σ 11 i ∧ σ 11 i ≤ 9999) ∨ (σ 9 i = 1 ∧ (σ 11 i = 0 ∨ σ 11 i = 1 ∨ σ 11 i = 2)) ∨ σ 9 i = 2)
def RCa (σ : SG) (mi : MI) : Prop := ∀ i : Nat, (i : Int) < σ 0 15 → mi 40 i = zI (σ 9 i) ∧ mi 41 i = zI (σ 10 i) ∧ mi 42 i = zI (σ 11 i)
/-- lights, shutters, losses in one row -/
def xv (σ : SG) (k : Nat) : Int := if k < 31 then σ 1 k else if k < 62 then σ 2 (k - 31) else σ 0 10
def clr (z : Int) (n : Nat) : Int := (z.toNat &&& (2 ^ n ^^^ (2 ^ 32 - 1)) : Nat)
def und (s n b : Int) (x : Nat → Int) (k : Nat) : Int := if s = 0 then (if k = n.toNat then b else x k) else if s = 1 then (if k = 31 + n.toNat then b else x k) else (if k = 62 then clr (x 62) n.toNat else x k)
/-- the row as it was d acts ago -/
def pa_ (σ : SG) : Nat → Nat → Int
  | 0 => xv σ
  | d + 1 => und (σ 9 ((σ 0 15).toNat - 1 - d)) (σ 10 ((σ 0 15).toNat - 1 - d)) (σ 11 ((σ 0 15).toNat - 1 - d)) (pa_ σ d)
/-- the places of a row that count -/
def rel (σ : SG) (k : Nat) : Prop := (k : Int) < σ 0 5 ∨ (31 ≤ k ∧ (k : Int) - 31 < σ 0 5) ∨ k = 62
def RMp (σ : SG) (mj : MI) : Prop := ∀ d : Nat, 0 < d → (d : Int) ≤ σ 0 15 → ∀ k, k < 63 → rel σ k → mj 56 (63 * ((σ 0 15).toNat - d) + k) = zI (pa_ σ d k)
/-- all of the class but its table and its tour; all of the reference -/
def FC (σ : SG) (nb : Nat) (mi : MI) (ml : ML) : Prop := IC σ nb mi ∧ WL σ ∧ RCl σ mi ∧ RCn σ mi ml ∧ WA σ ∧ RCa σ mi
def FR (σ : SG) (mj : MI) : Prop := IR σ mj ∧ RMl σ mj ∧ RMn σ mj ∧ RMp σ mj
/-- class and reference answer alike and go on alike; masks, table and tour stay -/
def Adv (yw yr : Nat) (as : List AV) (nb db : Nat) (by_ rs : RX) (σ : SG) (mi : MI) (ml : ML) (mj : MI) (mk : ML) : Prop :=
  ∀ c : Nat, ∃ (v : AV) (σ' : SG) (mi' : MI) (ml' : ML) (mj' : MI) (mk' : ML), Ret yw (vR 10 0 1 :: as) (some v) c (MRc nb db by_ rs) mi ml mi' ml' ∧ Ret yr (vR 19 0 48 :: as) (some v) c (MRc nb db by_ rs) mj mk mj' mk' ∧ FC σ' nb mi' ml' ∧ FR σ' mj' ∧ (σ' 4 = σ 4 ∧ σ' 0 9 = σ 0 9 ∧ σ' 0 5 = σ 0 5 ∧ σ' 0 0 = σ 0 0 ∧ σ' 0 6 = σ 0 6)
    ∧ (∀ a, 19 ≤ a → a ≤ 38 → mi' a = mi a) ∧ (∀ a, (a = 0 ∨ 48 ≤ a) → mi' a = mi a) ∧ (∀ a, 17 ≤ a → ml' a = ml a) ∧ (∀ a, a < 48 ∨ 65 < a → mj' a = mj a) ∧ FLw mk mk' ∧ isV yw v = true
theorem tb_bits (f : Nat → Bool) (n k : Nat) : (bitsOf f n).testBit k = (decide (k < n) && f k) := by
  by_cases h : k < n
  · rw [Nat.testBit_eq_decide_div_mod_eq, bitsOf_at f n h]
    cases f k <;> simp [h]
  · rw [Nat.testBit_lt_two_pow (Nat.lt_of_lt_of_le (bitsOf_lt f n) (Nat.pow_le_pow_right (by decide) (by omega)))]
    simp [h]
theorem bits_off {f g : Nat → Bool} {n j : Nat} (hn : n ≤ 31) (hj : j < n) (hg : g j = false) (h : ∀ k, k ≠ j → g k = f k) {x y : Int32} (hx : x = nI (bitsOf f n)) (hy : y = nI j) : x &&& (nI 1 <<< (y &&& 31) ^^^ -(nI 1)) = nI (bitsOf g n) := by
  have hp := p2_lt (show j < 31 by omega)
  rw [hx, shl_n rfl hy (by omega) (by omega), Nat.one_mul, m1_eq, nI_xor, nI_and]
  congr 1
  apply Nat.eq_of_testBit_eq
  intro k
  rw [Nat.testBit_and, tb_bits, tb_bits, Nat.testBit_xor, Nat.testBit_two_pow, Nat.testBit_two_pow_sub_one]
  by_cases hk : k < n
  · have h32 : k < 32 := by omega
    by_cases e : k = j
    · subst e; simp [hk, hg, h32]
    · have : decide (j = k) = false := decide_eq_false (fun z => e z.symm)
      rw [this, h k e]; simp [hk, h32]
  · simp [hk]
theorem bits_on {f g : Nat → Bool} {n j : Nat} (hn : n ≤ 31) (hj : j < n) (hg : g j = true) (h : ∀ k, k ≠ j → g k = f k) {x y : Int32} (hx : x = nI (bitsOf f n)) (hy : y = nI j) : x ||| (nI 1 <<< (y &&& 31)) = nI (bitsOf g n) := by
  have hp := p2_lt (show j < 31 by omega)
  rw [hx, shl_n rfl hy (by omega) (by omega), Nat.one_mul, nI_or]
  congr 1
  apply Nat.eq_of_testBit_eq
  intro k
  rw [Nat.testBit_or, tb_bits, tb_bits, Nat.testBit_two_pow]
  by_cases e : k = j
  · subst e; simp [hj, hg]
  · have : decide (j = k) = false := decide_eq_false (fun z => e z.symm)
    rw [this, h k e]; simp
theorem clr_or {a n : Nat} (ha : a < 2 ^ 31) (hn : n < 31) (h : ¬ bt a n = 1) : clr ((a ||| 2 ^ n : Nat) : Int) n = a := by
  have hp := p2_lt hn
  unfold clr
  rw [Int.toNat_natCast]
  congr 1
  apply Nat.eq_of_testBit_eq
  intro k
  rw [Nat.testBit_and, Nat.testBit_or, Nat.testBit_xor, Nat.testBit_two_pow, Nat.testBit_two_pow_sub_one]
  by_cases e : n = k
  · subst e
    have : a.testBit n = false := by
      rw [bt_tb] at h
      cases hb : a.testBit n with
      | true => rw [hb] at h; exact absurd rfl h
      | false => rfl
    simp [this, show n < 32 by omega]
  · by_cases hk : k < 32
    · simp [e, hk]
    · have : a.testBit k = false := Nat.testBit_lt_two_pow (Nat.lt_of_lt_of_le ha (Nat.pow_le_pow_right (by decide) (by omega)))
      simp [this, e]
theorem clr_bd {z : Int} (n : Nat) {m : Nat} (hz : 0 ≤ z ∧ z < 2 ^ m) : 0 ≤ clr z n ∧ clr z n < 2 ^ m := by
  rw [p2Z] at hz ⊢
  unfold clr
  have := Nat.and_le_left (n := z.toNat) (m := (2 ^ n ^^^ (2 ^ 32 - 1)))
  omega
section
variable {nb db b : Nat} {by_ rs : RX} {c : Nat} {σ : SG} {mi mj : MI} {ml mk : ML} {x j : Int32}
/-- the oldest act is dropped -/
theorem D_loop : ∀ q, q ≤ 10 → ∀ (i : Int32) (m : MI), 1 ≤ q → i = nI q → ∃ m', Go m_ac_dropOldest 2 [some (vR 18 0 39), some (vI i)] [] none c (MRc nb db by_ rs) m ml m' ml ∧ m' 39 0 = nI 9 ∧ (∀ k, k ≠ 0 → m' 39 k = m 39 k) ∧ (∀ a, a = 40 ∨ a = 41 ∨ a = 42 → ∀ k, k < 9 → m' a k = if q ≤ k + 1 then m a (k + 1) else m a k) ∧ ∀ a, a < 39 ∨ 42 < a → m' a = m a := by
  refine upto ?_ ?_
  · intro i m _ hi
    refine ⟨_, g_ac_dropOldest_2 ⟨fun _ => ⟨rfl, rfl, rfl⟩, fun h => absurd (by rw [hi]; exact Int32.le_refl _) h⟩, u2_s _ _ _ _, fun k hk => u2_ne2 _ _ (Or.inr hk), fun a ha k hk => ?_, fun a ha => u2_o _ _ (by omega)⟩
    rw [u2_o _ _ (by omega), if_neg (by omega)]
  · intro q hq ih i m h1 hi
    have e1 : i - nI 1 = nI (q - 1) := by rw [hi, nI_sub (by omega)]
    obtain ⟨m', p1, p2, p3, p4, p5⟩ := ih (i + nI 1) (u2 (u2 (u2 m 40 (q - 1) (m 40 q)) 41 (q - 1) (m 41 q)) 42 (q - 1) (m 42 q)) (by omega) (inc hi)
    refine ⟨m', g_ac_dropOldest_2 ⟨fun g => absurd g ?_, fun _ => ⟨ixn hi (by omega) (by decide), ixn e1 (by omega) (by decide), ixn hi (by omega) (by decide), ixn e1 (by omega) (by decide), ixn hi (by omega) (by decide), ixn e1 (by omega) (by decide), ?_⟩⟩, p2, fun k hk => ?_, fun a ha k hk => ?_, fun a ha => ?_⟩
    · rw [hi, nI_leN (by decide) (by omega)]; omega
    · rw [cln e1 (by omega), cln hi (by omega)]; exact p1
    · rw [p3 k hk, u2_o _ _ (by decide), u2_o _ _ (by decide), u2_o _ _ (by decide)]
    · rw [p4 a ha k hk]
      have hu : ∀ t, u2 (u2 (u2 m 40 (q - 1) (m 40 q)) 41 (q - 1) (m 41 q)) 42 (q - 1) (m 42 q) a t = if t = q - 1 then m a q else m a t := by
        intro t
        rcases ha with rfl | rfl | rfl
        · rw [u2_o _ _ (by decide), u2_o _ _ (by decide), u2_if]; simp
        · rw [u2_o _ _ (by decide), u2_if]
          by_cases e : t = q - 1
          · simp [e]
          · simp [e]; rw [u2_o _ _ (by decide)]
        · rw [u2_if]
          by_cases e : t = q - 1
          · simp [e]
          · simp [e]; rw [u2_o _ _ (by decide), u2_o _ _ (by decide)]
      rw [hu, hu]
      by_cases e : q ≤ k + 1
      · rw [if_pos e]
        by_cases e2 : q + 1 ≤ k + 1
        · rw [if_pos e2, if_neg (by omega)]
        · rw [if_neg e2, if_pos (by omega), show k + 1 = q by omega]
      · rw [if_neg e, if_neg (by omega), if_neg (by omega)]
    · rw [p5 a ha, u2_o _ _ (by omega), u2_o _ _ (by omega), u2_o _ _ (by omega)]
/-- how many acts are kept then; where a further act stands, and those before it -/
def kp1 (K : Nat) : Nat := if K < 10 then K + 1 else 10
theorem R_note {K : Nat} (hK : K ≤ 10) (h : mi 39 0 = nI K) (s n b : Int32) : ∃ m', Ret m_ac_note [vR 18 0 39, vI s, vI n, vI b] none c (MRc nb db by_ rs) mi ml m' ml ∧ m' 39 0 = nI (kp1 K) ∧ (m' 40 (kp1 K - 1) = s ∧ m' 41 (kp1 K - 1) = n ∧ m' 42 (kp1 K - 1) = b) ∧ (∀ a, a = 40 ∨ a = 41 ∨ a = 42 → ∀ k, k < kp1 K - 1 → m' a k = if K < 10 then mi a k else mi a (k + 1)) ∧ ∀ a, a < 39 ∨ 42 < a → m' a = mi a := by
  by_cases hk : K < 10
  · have e1 : kp1 K = K + 1 := if_pos hk
    refine ⟨_, g_ac_note_0 ⟨fun _ => ⟨ixn h (by omega) (by decide), ixn h (by omega) (by decide), ixn h (by omega) (by decide), rfl, rfl, rfl⟩, fun g => absurd ?_ g⟩, ?_, ⟨?_, ?_, ?_⟩, fun a ha k hkk => ?_, fun a ha => ?_⟩
    · rw [h, nI_ltI (by omega) (by decide)]; exact hk
    · rw [u2_s, h, nI_add, e1]
    · rw [e1, cln h (by omega), u2_o _ _ (by decide), u2_o _ _ (by decide), u2_o _ _ (by decide)]; exact u2_s _ _ _ _
    · rw [e1, cln h (by omega), u2_o _ _ (by decide), u2_o _ _ (by decide)]; exact u2_s _ _ _ _
    · rw [e1, cln h (by omega), u2_o _ _ (by decide)]; exact u2_s _ _ _ _
    · rw [e1] at hkk
      rw [if_pos hk, cln h (by omega), u2_o _ _ (by omega), u2_ne2 _ _ (Or.inr (by omega)), u2_ne2 _ _ (Or.inr (by omega)), u2_ne2 _ _ (Or.inr (by omega))]
    · rw [u2_o _ _ (by omega), u2_o _ _ (by omega), u2_o _ _ (by omega), u2_o _ _ (by omega)]
  · have e1 : kp1 K = 10 := if_neg hk
    obtain ⟨m1, p1, p2, p3, p4, p5⟩ := D_loop (nb := nb) (db := db) (by_ := by_) (rs := rs) (c := c) (ml := ml) 1 (by omega) (nI 1) mi (by omega) rfl
    refine ⟨_, g_ac_note_0 ⟨fun g => absurd g ?_, fun _ => ⟨_, _, g_ac_dropOldest_0 p1, ixn p2 (by omega) (by decide), ixn p2 (by omega) (by decide), ixn p2 (by omega) (by decide), rfl, rfl, rfl⟩⟩, ?_, ⟨?_, ?_, ?_⟩, fun a ha k hkk => ?_, fun a ha => ?_⟩
    · rw [h, nI_ltI (by omega) (by decide)]; omega
    · rw [u2_s, p2, nI_add, e1]
    · rw [e1, cln p2 (by omega), u2_o _ _ (by decide), u2_o _ _ (by decide), u2_o _ _ (by decide)]; exact u2_s _ _ _ _
    · rw [e1, cln p2 (by omega), u2_o _ _ (by decide), u2_o _ _ (by decide)]; exact u2_s _ _ _ _
    · rw [e1, cln p2 (by omega), u2_o _ _ (by decide)]; exact u2_s _ _ _ _
    · rw [e1] at hkk
      rw [if_neg hk, cln p2 (by omega), u2_o _ _ (by omega), u2_ne2 _ _ (Or.inr (by omega)), u2_ne2 _ _ (Or.inr (by omega)), u2_ne2 _ _ (Or.inr (by omega)), p4 a ha k (by omega), if_pos (by omega)]
    · rw [u2_o _ _ (by omega), u2_o _ _ (by omega), u2_o _ _ (by omega), u2_o _ _ (by omega), p5 a ha]
end
