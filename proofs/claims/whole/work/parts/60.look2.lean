/-! ===== look: seen ===== -/
def lkS (σ : SG) (L : Nat) (s r : Int) : SG := fun a => if a = 0 then (fun k => if k = 1 then 0 else if k = 11 then (lg1 L : Int) else if k = 13 then σ 0 13 + 1 else σ 0 k) else if a = 5 then (fun k => if k = 0 then s else σ 5 (k - 1)) else if a = 6 then (fun k => if k = 0 then r else σ 6 (k - 1)) else σ a
theorem lkS_0 (σ : SG) (L : Nat) (s r : Int) {k : Nat} (h1 : k ≠ 1) (h2 : k ≠ 11) (h3 : k ≠ 13) : lkS σ L s r 0 k = σ 0 k := by unfold lkS; simp [h1, h2, h3]
theorem lkS_s (σ : SG) (L : Nat) (s r : Int) : SGs σ (lkS σ L s r) := ⟨fun a ha => by unfold lkS; rw [if_neg (show ¬ a = 0 by omega), if_neg (show ¬ a = 5 by omega), if_neg (show ¬ a = 6 by omega)], fun k hk => lkS_0 σ L s r (by omega) (by omega) (by omega)⟩
section
variable {nb db b : Nat} {by_ rs : RX} {c : Nat} {σ τ : SG} {mi mi' mj mj' : MI} {ml ml' mk : ML} {x : Int32}
theorem lg1_b {L : Nat} (h : L ≤ 20) : 1 ≤ lg1 L ∧ lg1 L ≤ 20 ∧ lg1 L ≤ L + 1 := by
  unfold lg1
  by_cases e : 20 ≤ L
  · rw [if_pos e]; omega
  · rw [if_neg e]; omega
/-- the reference keeps a look -/
theorem R_kept {L : Nat} (hL : L ≤ 20) {m : MI} (h43 : m 48 43 = nI L) {r : Int32} (hs : ¬ mj 48 26 = 0) (hi : Ret m_r_isSet [vR 19 0 48, vI x] (some (vI (nI 1))) c (MRc nb db by_ rs) (u2 mj 48 0 (nI 0)) mk (u2 mj 48 0 (nI 0)) mk) (hl : Ret m_r_looks [vR 19 0 48, vI x] (some (vI r)) c (MRc nb db by_ rs) (u2 mj 48 0 (nI 0)) mk m mk) (hr : ¬ r = -(nI 1)) :
    ∃ MJ, Ret m_r_look [vR 19 0 48, vI x] (some (vI r)) c (MRc nb db by_ rs) mj mk MJ mk ∧ (∀ k, k < lg1 L → MJ 58 k = if k = lg1 L - 1 then x else if L < 20 then m 58 k else m 58 (k + 1)) ∧ (∀ k, k < lg1 L → MJ 59 k = if k = lg1 L - 1 then r else if L < 20 then m 59 k else m 59 (k + 1)) ∧ (∀ a, a ≠ 48 → a ≠ 58 → a ≠ 59 → MJ a = m a) ∧ MJ 48 43 = nI (lg1 L) ∧ MJ 48 1 = nI 0 ∧ MJ 48 2 = -(nI 1) ∧ ∀ k, k ≠ 43 → k ≠ 1 → k ≠ 2 → MJ 48 k = m 48 k := by
  by_cases e : L < 20
  · have hg : lg1 L = L + 1 := by unfold lg1; rw [if_neg (show ¬ 20 ≤ L by omega)]
    have n20 : ¬ m 48 43 = nI 20 := fun g => by
      have := cln h43 (by omega)
      rw [g, nI_clamp (by decide)] at this
      omega
    have ix := ixn h43 e (by decide)
    have hc := cln h43 (by omega)
    refine ⟨_, g_r_look_0 ⟨fun _ => ⟨_, hi, fun _ => ⟨_, _, _, hl, fun _ => ⟨fun _ => ⟨ix, ix, rfl, rfl, rfl⟩, fun g => absurd g n20⟩, fun g => absurd g hr⟩, fun g => absurd g n10⟩, fun g => absurd g hs⟩, fun k hk => ?_, fun k hk => ?_, fun a h1 h2 h3 => ?_, ?_, ?_, u2_s _ _ _ _, fun k h1 h2 h3 => ?_⟩
    · rw [u2_o _ _ (by decide), u2_o _ _ (by decide), u2_o _ _ (by decide), u2_o _ _ (by decide), hc, u2_if, hg, Nat.add_sub_cancel, if_pos e]
      by_cases z : k = L
      · rw [if_pos ⟨rfl, z⟩, if_pos z]
      · rw [if_neg (fun y : 58 = 58 ∧ k = L => z y.2), if_neg z]
    · rw [u2_o _ _ (by decide), u2_o _ _ (by decide), u2_o _ _ (by decide), hc, u2_if, hg, Nat.add_sub_cancel, if_pos e]
      by_cases z : k = L
      · rw [if_pos ⟨rfl, z⟩, if_pos z]
      · rw [if_neg (fun y : 59 = 59 ∧ k = L => z y.2), if_neg z, u2_o _ _ (by decide)]
    · rw [u2_o _ _ h1, u2_o _ _ h1, u2_o _ _ h1, u2_o _ _ h3, u2_o _ _ h2]
    · rw [u2_ne2 _ _ (Or.inr (by decide)), u2_ne2 _ _ (Or.inr (by decide)), u2_s, h43, nI_add, hg]
    · rw [u2_ne2 _ _ (Or.inr (by decide)), u2_s]
    · rw [u2_ne2 _ _ (Or.inr h3), u2_ne2 _ _ (Or.inr h2), u2_ne2 _ _ (Or.inr h1), u2_o _ _ (by decide), u2_o _ _ (by decide)]
  · have eL : L = 20 := by omega
    subst eL
    have hg : lg1 20 = 20 := rfl
    obtain ⟨MJ, p1, p2, p3, p4, p5, p6, p7, p8⟩ := KR_loop (nb := nb) (db := db) (by_ := by_) (rs := rs) (c := c) (mk := mk) x r 19 (by decide) (nI 1) m rfl h43
    refine ⟨MJ, g_r_look_0 ⟨fun _ => ⟨_, hi, fun _ => ⟨_, _, _, hl, fun _ => ⟨fun g => absurd h43 g, fun _ => p1⟩, fun g => absurd g hr⟩, fun g => absurd g n10⟩, fun g => absurd g hs⟩, fun k hk => ?_, fun k hk => ?_, p4, by rw [hg]; exact p5, p6, p7, p8⟩
    · rw [p2 k hk, hg, if_neg e, if_pos (show 19 ≤ k + 19 by omega)]
    · rw [p3 k hk, hg, if_neg e, if_pos (show 19 ≤ k + 19 by omega)]
end
