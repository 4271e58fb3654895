/-! ===== the log; a scan ===== -/
theorem u2_if {α : Type} (f : Nat → Nat → α) (a k : Nat) (v : α) (b j : Nat) : u2 f a k v b j = if b = a ∧ j = k then v else f b j := by
  by_cases e : b = a
  · subst e
    by_cases e2 : j = k
    · subst e2; simp [u2]
    · simp [u2, e2]
  · simp [u2, e]
theorem u2_o {α : Type} (f : Nat → Nat → α) {a k : Nat} (v : α) {b : Nat} (h : b ≠ a) : u2 f a k v b = f b := by
  funext j; rw [u2_if, if_neg (fun z => h z.1)]
section
variable {nb db b : Nat} {by_ rs : RX} {c : Nat} {σ : SG} {mi mj : MI} {ml mk : ML} {x j : Int32}
theorem K_loop (s r : Int32) : ∀ q, q ≤ 19 → ∀ (i : Int32) (m : MI), i = nI q → ∃ m', Go m_sg_keep 26 [some (vR 14 0 11), some (vI s), some (vI r), some (vI i)] [] none c (MRc nb db by_ rs) m ml m' ml ∧ (∀ k, m' 12 k = if k = 0 then s else if k ≤ q then m 12 (k - 1) else m 12 k) ∧ (∀ k, m' 13 k = if k = 0 then r else if k ≤ q then m 13 (k - 1) else m 13 k) ∧ ∀ a, a ≠ 12 → a ≠ 13 → m' a = m a := by
  intro q
  induction q with
  | zero =>
    intro _ i m hi
    refine ⟨_, g_sg_keep_26 ⟨fun _ => ⟨rfl, rfl, rfl⟩, fun g => absurd ?_ g⟩, fun k => ?_, fun k => ?_, fun a h1 h2 => ?_⟩
    · rw [hi]; decide
    · rw [u2_o _ _ (by decide), u2_if]
      by_cases e : k = 0
      · rw [if_pos ⟨rfl, e⟩, if_pos e]
      · rw [if_neg (fun z => e z.2), if_neg e, if_neg (by omega)]
    · rw [u2_if]
      by_cases e : k = 0
      · rw [if_pos ⟨rfl, e⟩, if_pos e]
      · rw [if_neg (fun z => e z.2), if_neg e, if_neg (by omega), u2_o _ _ (by decide)]
    · rw [u2_o _ _ h2, u2_o _ _ h1]
  | succ q ih =>
    intro hq i m hi
    have e1 : i - nI 1 = nI q := by rw [hi, nI_sub (by omega)]; rfl
    have e2 : i + -(nI 1) = nI q := by rw [← Int32.sub_eq_add_neg, e1]
    obtain ⟨m', h1, h2, h3, h4⟩ := ih (by omega) (i + -(nI 1)) (u2 (u2 m 12 (q + 1) (m 12 q)) 13 (q + 1) (m 13 q)) e2
    refine ⟨m', g_sg_keep_26 ⟨fun g => absurd g ?_, fun _ => ⟨ixn e1 (by omega) (by decide), ixn hi (by omega) (by decide), ixn e1 (by omega) (by decide), ixn hi (by omega) (by decide), ?_⟩⟩, fun k => ?_, fun k => ?_, fun a a1 a2 => ?_⟩
    · rw [hi, show (0 : Int32) = nI 0 from rfl, nI_leN (by omega) (by decide)]; omega
    · rw [cln e1 (by omega), cln hi (by omega)]; exact h1
    · rw [h2]
      by_cases k0 : k = 0
      · subst k0; simp [u2_if]
      · by_cases k1 : k = q + 1
        · subst k1; simp [u2_if]
        · by_cases kq : k ≤ q
          · simp [u2_if, k0, kq, k1, show k ≤ q + 1 by omega, show ¬ k - 1 = q + 1 by omega]
          · simp [u2_if, k0, kq, k1, show ¬ k ≤ q + 1 by omega]
    · rw [h3]
      by_cases k0 : k = 0
      · subst k0; simp [u2_if]
      · by_cases k1 : k = q + 1
        · subst k1; simp [u2_if]
        · by_cases kq : k ≤ q
          · simp [u2_if, k0, kq, k1, show k ≤ q + 1 by omega, show ¬ k - 1 = q + 1 by omega]
          · simp [u2_if, k0, kq, k1, show ¬ k ≤ q + 1 by omega]
    · rw [h4 a a1 a2, u2_o _ _ a2, u2_o _ _ a1]
/-- how long the log is then -/
def lg1 (L : Nat) : Nat := if 20 ≤ L then 20 else L + 1
theorem R_keep {L : Nat} (hL : L ≤ 20) (h : mi 11 2 = nI L) (s r : Int32) : ∃ m', Ret m_sg_keep [vR 14 0 11, vI s, vI r] none c (MRc nb db by_ rs) mi ml m' ml ∧ m' 11 2 = nI (lg1 L) ∧ (∀ k, k ≠ 2 → m' 11 k = mi 11 k) ∧ (∀ k, k < lg1 L → m' 12 k = if k = 0 then s else mi 12 (k - 1)) ∧ (∀ k, k < lg1 L → m' 13 k = if k = 0 then r else mi 13 (k - 1)) ∧ ∀ a, a ≠ 11 → a ≠ 12 → a ≠ 13 → m' a = mi a := by
  by_cases h20 : 20 ≤ L
  · have hl : lg1 L = 20 := if_pos h20
    have e : mi 11 2 - nI 1 = nI 19 := by rw [h, show L = 20 by omega]; rfl
    obtain ⟨m', h1, h2, h3, h4⟩ := K_loop (nb := nb) (db := db) (by_ := by_) (rs := rs) (c := c) (ml := ml) s r 19 (by omega) _ mi e
    refine ⟨m', g_sg_keep_0 ⟨fun _ => h1, fun g => absurd ?_ g⟩, ?_, fun k hk => ?_, fun k hk => ?_, fun k hk => ?_, fun a a0 a1 a2 => h4 a a1 a2⟩
    · rw [h, nI_leN (by decide) (by omega)]; omega
    · rw [h4 11 (by decide) (by decide), hl, h, show L = 20 by omega]
    · rw [h4 11 (by decide) (by decide)]
    · rw [h2]
      by_cases k0 : k = 0
      · rw [if_pos k0, if_pos k0]
      · rw [if_neg k0, if_neg k0, if_pos (by omega)]
    · rw [h3]
      by_cases k0 : k = 0
      · rw [if_pos k0, if_pos k0]
      · rw [if_neg k0, if_neg k0, if_pos (by omega)]
  · have hl : lg1 L = L + 1 := if_neg h20
    have e : mi 11 2 + nI 1 - nI 1 = nI L := by rw [h, nI_add, nI_sub (by omega)]; rfl
    obtain ⟨m', h1, h2, h3, h4⟩ := K_loop (nb := nb) (db := db) (by_ := by_) (rs := rs) (c := c) (ml := ml) s r L (by omega) _ (u2 mi 11 2 (mi 11 2 + nI 1)) e
    refine ⟨m', g_sg_keep_0 ⟨fun g => absurd g ?_, fun _ => h1⟩, ?_, fun k hk => ?_, fun k hk => ?_, fun k hk => ?_, fun a a0 a1 a2 => ?_⟩
    · rw [h, nI_leN (by decide) (by omega)]; omega
    · rw [h4 11 (by decide) (by decide), hl, u2_s, h, nI_add]
    · rw [h4 11 (by decide) (by decide), u2_ne2 _ _ (Or.inr hk)]
    · rw [h2, u2_o _ _ (by decide)]
      by_cases k0 : k = 0
      · rw [if_pos k0, if_pos k0]
      · rw [if_neg k0, if_neg k0, if_pos (by omega)]
    · rw [h3, u2_o _ _ (by decide)]
      by_cases k0 : k = 0
      · rw [if_pos k0, if_pos k0]
      · rw [if_neg k0, if_neg k0, if_pos (by omega)]
    · rw [h4 a a1 a2, u2_o _ _ a0]
/-- the reference's log is shifted -/
theorem KR_loop (s r : Int32) : ∀ q, q ≤ 19 → ∀ (i : Int32) (m : MI), i = nI (20 - q) → m 48 43 = nI 20 → ∃ m', Go m_r_look 60 [some (vR 19 0 48), some (vI s), some (vI r), some (vI i)] [] (some (vI r)) c (MRc nb db by_ rs) m mk m' mk ∧ (∀ k, k < 20 → m' 58 k = if k = 19 then s else if 19 ≤ k + q then m 58 (k + 1) else m 58 k) ∧ (∀ k, k < 20 → m' 59 k = if k = 19 then r else if 19 ≤ k + q then m 59 (k + 1) else m 59 k) ∧ (∀ a, a ≠ 48 → a ≠ 58 → a ≠ 59 → m' a = m a) ∧ m' 48 43 = nI 20 ∧ m' 48 1 = nI 0 ∧ m' 48 2 = -(nI 1) ∧ ∀ k, k ≠ 43 → k ≠ 1 → k ≠ 2 → m' 48 k = m 48 k := by
  intro q
  induction q with
  | zero =>
    intro _ i m hi h43
    have e : m 48 43 - nI 1 = nI 19 := by rw [h43]; rfl
    refine ⟨_, g_r_look_60 ⟨fun _ => ⟨ixn e (by omega) (by decide), ixn e (by omega) (by decide), rfl, rfl, rfl⟩, fun g => absurd ?_ g⟩, fun k hk => ?_, fun k hk => ?_, fun a a0 a1 a2 => ?_, ?_, ?_, ?_, fun k k0 k1 k2 => ?_⟩
    · rw [hi]; decide
    · rw [u2_o _ _ (by decide), u2_o _ _ (by decide), u2_o _ _ (by decide), u2_o _ _ (by decide), u2_if, cln e (by omega), u2_o _ _ (by decide)]
      by_cases e : k = 19
      · rw [if_pos ⟨rfl, e⟩, if_pos e]
      · rw [if_neg (fun z => e z.2), if_neg e, if_neg (by omega)]
    · rw [u2_o _ _ (by decide), u2_o _ _ (by decide), u2_o _ _ (by decide), u2_if, cln e (by omega)]
      by_cases e : k = 19
      · rw [if_pos ⟨rfl, e⟩, if_pos e]
      · rw [if_neg (fun z => e z.2), if_neg e, if_neg (by omega), u2_o _ _ (by decide), u2_o _ _ (by decide)]
    · rw [u2_o _ _ a0, u2_o _ _ a0, u2_o _ _ a0, u2_o _ _ a2, u2_o _ _ a1, u2_o _ _ a0]
    · rw [u2_ne2 _ _ (Or.inr (by decide)), u2_ne2 _ _ (Or.inr (by decide)), u2_s, e]; rfl
    · rw [u2_ne2 _ _ (Or.inr (by decide)), u2_s]
    · rw [u2_s]
    · rw [u2_ne2 _ _ (Or.inr k2), u2_ne2 _ _ (Or.inr k1), u2_ne2 _ _ (Or.inr k0), u2_o _ _ (by decide), u2_o _ _ (by decide), u2_ne2 _ _ (Or.inr k0)]
  | succ q ih =>
    intro hq i m hi h43
    have hi : i = nI (19 - q) := by rw [hi]; congr 1; omega
    have e1 : i - nI 1 = nI (18 - q) := by rw [hi, nI_sub (by omega)]; congr 1; omega
    have e2 : i + nI 1 = nI (20 - q) := by rw [hi, nI_add]; congr 1; omega
    obtain ⟨m', h1, h2, h3, h4, h5, h6, h7, h8⟩ := ih (by omega) (i + nI 1) (u2 (u2 m 58 (18 - q) (m 58 (19 - q))) 59 (18 - q) (m 59 (19 - q))) e2 h43
    refine ⟨m', g_r_look_60 ⟨fun g => absurd g ?_, fun _ => ⟨ixn hi (by omega) (by decide), ixn e1 (by omega) (by decide), ixn hi (by omega) (by decide), ixn e1 (by omega) (by decide), ?_⟩⟩, fun k hk => ?_, fun k hk => ?_, fun a a0 a1 a2 => ?_, h5, h6, h7, fun k k0 k1 k2 => ?_⟩
    · rw [hi, nI_leN (by decide) (by omega)]; omega
    · rw [cln e1 (by omega), cln hi (by omega)]; exact h1
    · rw [h2 k hk]
      by_cases k0 : k = 19
      · subst k0; simp [u2_if]
      · by_cases k1 : k = 18 - q
        · subst k1
          simp [u2_if, k0, show ¬ 19 ≤ 18 - q + q by omega, show 19 ≤ 18 - q + (q + 1) by omega, show 18 - q + 1 = 19 - q by omega]
        · by_cases kq : 19 ≤ k + q
          · simp [u2_if, k0, kq, k1, show 19 ≤ k + (q + 1) by omega, show ¬ k + 1 = 18 - q by omega]
          · simp [u2_if, k0, kq, k1, show ¬ 19 ≤ k + (q + 1) by omega]
    · rw [h3 k hk]
      by_cases k0 : k = 19
      · subst k0; simp [u2_if]
      · by_cases k1 : k = 18 - q
        · subst k1
          simp [u2_if, k0, show ¬ 19 ≤ 18 - q + q by omega, show 19 ≤ 18 - q + (q + 1) by omega, show 18 - q + 1 = 19 - q by omega]
        · by_cases kq : 19 ≤ k + q
          · simp [u2_if, k0, kq, k1, show 19 ≤ k + (q + 1) by omega, show ¬ k + 1 = 18 - q by omega]
          · simp [u2_if, k0, kq, k1, show ¬ 19 ≤ k + (q + 1) by omega]
    · rw [h4 a a0 a1 a2, u2_o _ _ a2, u2_o _ _ a1]
    · rw [h8 k k0 k1 k2, u2_o _ _ (by decide), u2_o _ _ (by decide)]
end
