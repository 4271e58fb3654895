/-! ===== undo: the last act taken back ===== -/
section
variable {nb db b : Nat} {by_ rs : RX} {c : Nat} {σ σ' : SG} {mi mi' mj mj' m m1 m2 : MI} {ml mk : ML} {x j : Int32} {Q p n : Nat}
theorem T_light (hbb : b = 43 ∨ b = 5) (hQ : Q < 10) (hT : m 39 0 = nI (Q + 1)) (hS : m 40 Q = nI 0) (hN : m 41 Q = nI p) (hn : m b 0 = nI n) (hp : p < n) (hn31 : n ≤ 31) : Ret m_ac_takeBack [vR 18 0 39, vR 13 0 b] none c (MRc nb db by_ rs) m ml (u2 (u2 m 39 0 (nI Q)) (b + 2) p (m 42 Q)) ml := by
  have hT1 : m 39 0 - nI 1 = nI Q := by rw [hT, nI_sub (by omega), Nat.add_sub_cancel]
  have hc : (m 39 0 - nI 1).toNatClampNeg = Q := cln hT1 (by omega)
  have ix : vp_in (m 39 0 - nI 1) 10 := ixn hT1 hQ (by decide)
  have h0 : (0 : Int32) < m 39 0 := by rw [hT]; exact (nI_ltI (by decide) (by omega)).mpr (show 0 < Q + 1 by omega)
  refine g_ac_takeBack_0 hbb ⟨fun _ => ⟨ix, ix, fun g => absurd ?_ g, fun _ => ⟨fun g => absurd g ?_, fun _ => ⟨fun g => absurd g ?_, fun _ => ⟨ix, ?_, rfl, ?_, rfl⟩⟩⟩⟩, fun g => absurd h0 g⟩
  · rw [hc, hS]; rfl
  · rw [hc, hN]; exact fun g => absurd ((nI_ltI (by omega) (by decide)).mp (show nI p < nI 0 from g)) (by omega)
  · rw [hc, hN, hn, nI_leN (by omega) (by omega)]; omega
  · rw [hc, hN]; exact ixn rfl (by omega) (by decide)
  · rw [hc, hN, hT1, nI_clamp (by omega)]
theorem T_loss (hbb : b = 43 ∨ b = 5) (hQ : Q < 10) (hT : m 39 0 = nI (Q + 1)) (hS : m 40 Q = nI 2) (hN : m 41 Q = nI p) : Ret m_ac_takeBack [vR 18 0 39, vR 13 0 b] none c (MRc nb db by_ rs) m ml (u2 (u2 m 39 0 (nI Q)) b 7 (m b 7 &&& (nI 1 <<< (nI p &&& 31) ^^^ -(nI 1)))) ml := by
  have hT1 : m 39 0 - nI 1 = nI Q := by rw [hT, nI_sub (by omega), Nat.add_sub_cancel]
  have hc : (m 39 0 - nI 1).toNatClampNeg = Q := cln hT1 (by omega)
  have ix : vp_in (m 39 0 - nI 1) 10 := ixn hT1 hQ (by decide)
  have h0 : (0 : Int32) < m 39 0 := by rw [hT]; exact (nI_ltI (by decide) (by omega)).mpr (show 0 < Q + 1 by omega)
  refine g_ac_takeBack_0 hbb ⟨fun _ => ⟨ix, ix, fun _ => ⟨ix, fun _ => ⟨rfl, ?_, rfl⟩, fun g => absurd g ?_⟩, fun g => absurd g ?_⟩, fun g => absurd h0 g⟩
  · rw [hc, hN, hT1]
  · rw [hc, hS]; decide
  · rw [hc, hS]; decide
theorem T_shut0 (hbb : b = 43 ∨ b = 5) (hQ : Q < 10) (hT : m 39 0 = nI (Q + 1)) (hS : m 40 Q = nI 1) (hN : m 41 Q = nI p) (hO : m 42 Q = nI 0) : Ret m_ac_takeBack [vR 18 0 39, vR 13 0 b] none c (MRc nb db by_ rs) m ml (u2 (u2 (u2 m 39 0 (nI Q)) b 5 (m b 5 &&& (nI 1 <<< (nI p &&& 31) ^^^ -(nI 1)))) b 6 (m b 6 &&& (nI 1 <<< (nI p &&& 31) ^^^ -(nI 1)))) ml := by
  have hT1 : m 39 0 - nI 1 = nI Q := by rw [hT, nI_sub (by omega), Nat.add_sub_cancel]
  have hc : (m 39 0 - nI 1).toNatClampNeg = Q := cln hT1 (by omega)
  have ix : vp_in (m 39 0 - nI 1) 10 := ixn hT1 hQ (by decide)
  have h0 : (0 : Int32) < m 39 0 := by rw [hT]; exact (nI_ltI (by decide) (by omega)).mpr (show 0 < Q + 1 by omega)
  have y1 : ¬ m 42 (m 39 0 - nI 1).toNatClampNeg = nI 1 := by rw [hc, hO]; decide
  have y2 : ¬ m 42 (m 39 0 - nI 1).toNatClampNeg = nI 2 := by rw [hc, hO]; decide
  refine g_ac_takeBack_0 hbb ⟨fun _ => ⟨ix, ix, fun _ => ⟨ix, fun g => absurd ?_ g, fun _ => ⟨ix, ⟨fun _ => ⟨fun _ => ⟨rfl, by rw [hc, hN, hT1], rfl⟩, fun g => absurd g y2⟩, fun g => absurd g y1⟩⟩⟩, fun g => absurd g ?_⟩, fun g => absurd h0 g⟩
  · rw [hc, hS]
  · rw [hc, hS]; decide
theorem T_shut1 (hbb : b = 43 ∨ b = 5) (hQ : Q < 10) (hT : m 39 0 = nI (Q + 1)) (hS : m 40 Q = nI 1) (hN : m 41 Q = nI p) (hO : m 42 Q = nI 1) : Ret m_ac_takeBack [vR 18 0 39, vR 13 0 b] none c (MRc nb db by_ rs) m ml (u2 (u2 (u2 (u2 m 39 0 (nI Q)) b 5 (m b 5 &&& (nI 1 <<< (nI p &&& 31) ^^^ -(nI 1)))) b 6 (m b 6 &&& (nI 1 <<< (nI p &&& 31) ^^^ -(nI 1)))) b 5 ((m b 5 &&& (nI 1 <<< (nI p &&& 31) ^^^ -(nI 1))) ||| (nI 1 <<< (nI p &&& 31)))) ml := by
  have hT1 : m 39 0 - nI 1 = nI Q := by rw [hT, nI_sub (by omega), Nat.add_sub_cancel]
  have hc : (m 39 0 - nI 1).toNatClampNeg = Q := cln hT1 (by omega)
  have ix : vp_in (m 39 0 - nI 1) 10 := ixn hT1 hQ (by decide)
  have h0 : (0 : Int32) < m 39 0 := by rw [hT]; exact (nI_ltI (by decide) (by omega)).mpr (show 0 < Q + 1 by omega)
  have y1 : m 42 (m 39 0 - nI 1).toNatClampNeg = nI 1 := by rw [hc, hO]
  have y2 : ¬ m 42 (m 39 0 - nI 1).toNatClampNeg = nI 2 := by rw [hc, hO]; decide
  refine g_ac_takeBack_0 hbb ⟨fun _ => ⟨ix, ix, fun _ => ⟨ix, fun g => absurd ?_ g, fun _ => ⟨ix, ⟨fun g => absurd y1 g, fun _ => ⟨fun _ => ⟨rfl, by rw [hc, hN, hT1], rfl⟩, fun g => absurd g y2⟩⟩⟩⟩, fun g => absurd g ?_⟩, fun g => absurd h0 g⟩
  · rw [hc, hS]
  · rw [hc, hS]; decide
theorem T_shut2 (hbb : b = 43 ∨ b = 5) (hQ : Q < 10) (hT : m 39 0 = nI (Q + 1)) (hS : m 40 Q = nI 1) (hN : m 41 Q = nI p) (hO : m 42 Q = nI 2) : Ret m_ac_takeBack [vR 18 0 39, vR 13 0 b] none c (MRc nb db by_ rs) m ml (u2 (u2 (u2 (u2 m 39 0 (nI Q)) b 5 (m b 5 &&& (nI 1 <<< (nI p &&& 31) ^^^ -(nI 1)))) b 6 (m b 6 &&& (nI 1 <<< (nI p &&& 31) ^^^ -(nI 1)))) b 6 ((m b 6 &&& (nI 1 <<< (nI p &&& 31) ^^^ -(nI 1))) ||| (nI 1 <<< (nI p &&& 31)))) ml := by
  have hT1 : m 39 0 - nI 1 = nI Q := by rw [hT, nI_sub (by omega), Nat.add_sub_cancel]
  have hc : (m 39 0 - nI 1).toNatClampNeg = Q := cln hT1 (by omega)
  have ix : vp_in (m 39 0 - nI 1) 10 := ixn hT1 hQ (by decide)
  have h0 : (0 : Int32) < m 39 0 := by rw [hT]; exact (nI_ltI (by decide) (by omega)).mpr (show 0 < Q + 1 by omega)
  have y1 : ¬ m 42 (m 39 0 - nI 1).toNatClampNeg = nI 1 := by rw [hc, hO]; decide
  have y2 : m 42 (m 39 0 - nI 1).toNatClampNeg = nI 2 := by rw [hc, hO]
  refine g_ac_takeBack_0 hbb ⟨fun _ => ⟨ix, ix, fun _ => ⟨ix, fun g => absurd ?_ g, fun _ => ⟨ix, ⟨fun _ => ⟨fun g => absurd y2 g, fun _ => ⟨rfl, by rw [hc, hN, hT1], rfl⟩⟩, fun g => absurd g y1⟩⟩⟩, fun g => absurd g ?_⟩, fun g => absurd h0 g⟩
  · rw [hc, hS]
  · rw [hc, hS]; decide
/-- the reference lays the row back -/
theorem U_loop (hQ : Q < 10) : ∀ q, q ≤ 63 → ∀ (l : Int32) (m : MI), l = nI q → m 48 30 = nI Q → ∃ m', Go m_r_undo 39 [some (vR 19 0 48), some (vI l)] [] (some (vI (nI 1))) c (MRc nb db by_ rs) m mk m' mk ∧ (∀ k, k < 63 → m' 54 k = if q ≤ k then m 56 (63 * Q + k) else m 54 k) ∧ (m' 48 43 = nI 0 ∧ m' 48 46 = nI 0 ∧ m' 48 1 = nI 0 ∧ m' 48 2 = -(nI 1)) ∧ (∀ k, k ≠ 43 → k ≠ 46 → k ≠ 1 → k ≠ 2 → m' 48 k = m 48 k) ∧ ∀ a, a ≠ 48 → a ≠ 54 → m' a = m a := by
  refine upto ?_ ?_
  · intro l m hl _
    refine ⟨_, g_r_undo_39 ⟨fun _ => ⟨rfl, rfl, rfl⟩, fun h => absurd (by rw [hl]; exact Int32.le_refl _) h⟩, fun k hk => ?_, ⟨?_, ?_, ?_, u2_s _ _ _ _⟩, fun k h1 h2 h3 h4 => ?_, fun a h1 h2 => ?_⟩
    · rw [u2_o _ _ (by decide), u2_o _ _ (by decide), u2_o _ _ (by decide), u2_o _ _ (by decide), if_neg (by omega)]
    · rw [u2_ne2 _ _ (Or.inr (by decide)), u2_ne2 _ _ (Or.inr (by decide)), u2_ne2 _ _ (Or.inr (by decide)), u2_s]
    · rw [u2_ne2 _ _ (Or.inr (by decide)), u2_ne2 _ _ (Or.inr (by decide)), u2_s]
    · rw [u2_ne2 _ _ (Or.inr (by decide)), u2_s]
    · rw [u2_ne2 _ _ (Or.inr h4), u2_ne2 _ _ (Or.inr h3), u2_ne2 _ _ (Or.inr h2), u2_ne2 _ _ (Or.inr h1)]
    · rw [u2_o _ _ h1, u2_o _ _ h1, u2_o _ _ h1, u2_o _ _ h1]
  · intro q hq ih l m hl h30
    have e1 : nI 63 * m 48 30 + l = nI (63 * Q + q) := by rw [h30, hl, nI_z, nI_z, zI_mul, nI_z, zI_add, nI_z]; congr 1
    obtain ⟨m', p1, p2, p3, p4, p5⟩ := ih (l + nI 1) (u2 m 54 q (m 56 (63 * Q + q))) (inc hl) (by rw [u2_o _ _ (by decide), h30])
    refine ⟨m', g_r_undo_39 ⟨fun g => absurd g ?_, fun _ => ⟨ixn e1 (by omega) (by decide), ixn hl (by omega) (by decide), ?_⟩⟩, fun k hk => ?_, p3, fun k h1 h2 h3 h4 => ?_, fun a h1 h2 => ?_⟩
    · rw [hl, nI_leN (by decide) (by omega)]; omega
    · rw [cln hl (by omega), cln e1 (by omega)]; exact p1
    · rw [p2 k hk, u2_o _ _ (by decide), u2_if]
      by_cases e : k = q
      · have z1 : ¬ q + 1 ≤ k := by omega
        have z2 : q ≤ k := by omega
        rw [if_neg z1, if_pos ⟨rfl, e⟩, if_pos z2, e]
      · rw [if_neg (fun z : 54 = 54 ∧ k = q => e z.2)]
        by_cases z : q + 1 ≤ k
        · have z2 : q ≤ k := by omega
          rw [if_pos z, if_pos z2]
        · have z2 : ¬ q ≤ k := by omega
          rw [if_neg z, if_neg z2]
    · rw [p4 k h1 h2 h3 h4, u2_o _ _ (by decide)]
    · rw [p5 a h1 h2, u2_o _ _ h2]
end
