/-! ===== stuck: which colour, on both sides ===== -/
def stN (σ : SG) (x : Int32) : Nat → Nat → Nat → Option Nat
  | 0, _, _ => none
  | n + 1, j, a => if σ 2 j = 0 then stN σ x n (j + 1) a else if nI a = x then some j else stN σ x n (j + 1) (a + 1)
def stk (σ : SG) (x : Int32) : Option Nat := stN σ x (σ 0 5).toNat 0 0
section
variable {nb db : Nat} {by_ rs : RX} {c k s : Nat} {mi mj : MI} {ml mk : ML} {σ : SG} {x l2 l3 : Int32} {Z : FT} {Q : Option AV → HP} {QX : HP}
theorem ws_11 (hb : nb = 43 ∧ db = 5 ∨ nb = 5 ∧ db = 43) (hZ : RetOK Z Q)
    (h : (mi nb 0 ≤ l3 → At m_w_stuck 49 [some (vR 10 0 1), some (vI x), some (vI l2), some (vI l3)] [] k s Z c (MRc nb db by_ rs) mi ml) ∧ (¬ mi nb 0 ≤ l3 →
      ((¬ ((mi nb 5 >>> (l3 &&& 31)) &&& nI 1) = nI 1 → ((¬ ((mi nb 6 >>> (l3 &&& 31)) &&& nI 1) = nI 1 → At m_w_stuck 11 [some (vR 10 0 1), some (vI x), some (vI l2), some (vI (l3 + nI 1))] [] k s Z c (MRc nb db by_ rs) mi ml) ∧ (((mi nb 6 >>> (l3 &&& 31)) &&& nI 1) = nI 1 → ((¬ l2 = x → At m_w_stuck 11 [some (vR 10 0 1), some (vI x), some (vI (l2 + nI 1)), some (vI (l3 + nI 1))] [] k s Z c (MRc nb db by_ rs) mi ml) ∧ (l2 = x → Q (some (vI l3)) c (MRc nb db by_ rs) mi ml)))))
      ∧ (((mi nb 5 >>> (l3 &&& 31)) &&& nI 1) = nI 1 → ((¬ l2 = x → At m_w_stuck 11 [some (vR 10 0 1), some (vI x), some (vI (l2 + nI 1)), some (vI (l3 + nI 1))] [] k s Z c (MRc nb db by_ rs) mi ml) ∧ (l2 = x → Q (some (vI l3)) c (MRc nb db by_ rs) mi ml)))))) :
    At m_w_stuck 11 [some (vR 10 0 1), some (vI x), some (vI l2), some (vI l3)] [] k s Z c (MRc nb db by_ rs) mi ml := by
  rcases hb with ⟨rfl, rfl⟩ | ⟨rfl, rfl⟩
  all_goals
    refine at_wqZ inlT 400 hZ rfl ?_
    refine ⟨fun g => (by have z := h.1 g; cases k <;> exact z), fun g => ?_⟩
    have h := h.2 g
    refine ⟨fun g => ?_, fun g => ?_⟩
    · have h := h.1 g
      refine ⟨fun g => ?_, fun g => ?_⟩
      · refine ⟨fun _ => ?_, fun z => absurd rfl z⟩
        exact h.1 g
      · refine ⟨fun z => absurd z (by decide), fun _ => ?_⟩
        refine ⟨fun g2 => ?_, fun g2 => ?_⟩
        · exact (h.2 g).1 g2
        · exact (h.2 g).2 g2
    · have h := h.2 g
      refine ⟨fun z => absurd z (by decide), fun _ => ?_⟩
      refine ⟨fun g2 => ?_, fun g2 => ?_⟩
      · exact h.1 g2
      · exact h.2 g2
theorem CS_loop (hb : nb = 43 ∧ db = 5 ∨ nb = 5 ∧ db = 43) (hW : WF σ) (B : RCb σ nb mi) (hk : 1 ≤ k) (hs : 6 ≤ s) :
    ∀ n j a (l2 l3 : Int32), (σ 0 5).toNat - j = n → j ≤ (σ 0 5).toNat → l2 = nI a → l3 = nI j → (∀ i, stN σ x n j a = some i → Q (some (vI (nI i))) c (MRc nb db by_ rs) mi ml) → (stN σ x n j a = none → ∀ c', c ≤ c' → QX c' (MRc nb db by_ rs) mi ml) →
      At m_w_stuck 11 [some (vR 10 0 1), some (vI x), some (vI l2), some (vI l3)] [] k s (Zx m_w_stuck Q QX) c (MRc nb db by_ rs) mi ml := by
  have hnn := hW.nn
  have e0 : mi nb 0 = nI (σ 0 5).toNat := B.1.trans (z_nat hnn.1)
  intro n
  induction n with
  | zero =>
    intro j a l2 l3 hn hj h2 h3 hQ hX
    refine ws_11 hb Zx_ok ⟨fun _ => at_thr hk hs (hX rfl), fun z => absurd (by rw [e0, h3, nI_leI (by omega) (by omega)]; omega) z⟩
  | succ n ih =>
    intro j a l2 l3 hn hj h2 h3 hQ hX
    have hjN : (j : Int) < σ 0 5 := by omega
    have o5 := op_at hW hjN (by omega)
    have o6 := sh_at hW hjN (by omega)
    rw [← B.2.2.2.2.2.1, ← h3] at o5
    rw [← B.2.2.2.2.2.2.1, ← h3] at o6
    have step : σ 2 j ≠ 0 → (¬ l2 = x → At m_w_stuck 11 [some (vR 10 0 1), some (vI x), some (vI (l2 + nI 1)), some (vI (l3 + nI 1))] [] k s (Zx m_w_stuck Q QX) c (MRc nb db by_ rs) mi ml) ∧ (l2 = x → Q (some (vI l3)) c (MRc nb db by_ rs) mi ml) := by
      intro h0
      refine ⟨fun z => ?_, fun z => ?_⟩
      · have e : stN σ x (n + 1) j a = stN σ x n (j + 1) (a + 1) := by
          show (if σ 2 j = 0 then _ else if nI a = x then _ else _) = _
          rw [if_neg h0, if_neg (by rw [← h2]; exact z)]
        rw [e] at hQ hX
        exact ih (j + 1) (a + 1) _ _ (by omega) (by omega) (inc h2) (inc h3) hQ hX
      · have e : stN σ x (n + 1) j a = some j := by
          show (if σ 2 j = 0 then _ else if nI a = x then _ else _) = _
          rw [if_neg h0, if_pos (by rw [← h2]; exact z)]
        rw [h3]; exact hQ j e
    refine ws_11 hb Zx_ok ⟨fun z => absurd z (by rw [e0, h3, nI_leI (by omega) (by omega)]; omega), fun _ => ⟨fun g => ⟨fun g2 => ?_, fun g2 => ?_⟩, fun g => ?_⟩⟩
    · have h0 : σ 2 j = 0 := by
        rw [o5] at g
        rw [o6] at g2
        rcases hW.shut j with z | z | z
        · exact z
        · rw [z] at g; exact absurd rfl g
        · rw [z] at g2; exact absurd rfl g2
      have e : stN σ x (n + 1) j a = stN σ x n (j + 1) a := by
        show (if σ 2 j = 0 then _ else if nI a = x then _ else _) = _
        rw [if_pos h0]
      rw [e] at hQ hX
      exact ih (j + 1) a _ _ (by omega) (by omega) h2 (inc h3) hQ hX
    · exact step (fun z => by rw [o6, z] at g2; exact absurd g2 (by decide))
    · exact step (fun z => by rw [o5, z] at g; exact absurd g (by decide))
/-- the class's stuck returns or throws -/
theorem CS_stuck (hb : nb = 43 ∧ db = 5 ∨ nb = 5 ∧ db = 43) (I : IC σ nb mi) (hQ : ∀ i, stk σ x = some i → Q (some (vI (nI i))) c (MRc nb db by_ rs) mi ml) (hX : stk σ x = none → ∀ c', c ≤ c' → QX c' (MRc nb db by_ rs) mi ml) :
    OkX m_w_stuck 1 6 [vR 10 0 1, vI x] Q QX c (MRc nb db by_ rs) mi ml := by
  obtain ⟨hW, hs, hB⟩ := I
  refine okx_at (by decide) (Nat.le_of_ble_eq_true rfl) ?_
  show At m_w_stuck 0 [some (vR 10 0 1), some (vI x), none, none] [] 1 6 (Zx m_w_stuck Q QX) c (MRc nb db by_ rs) mi ml
  refine at_wqZ inlT 400 Zx_ok rfl ?_
  refine ⟨fun g => ?_, fun g => ?_⟩
  · have h0 : σ 0 0 = 0 := by
      rcases hW.1 with h | h
      · exact h.1
      · rw [hs.1, h.1] at g; exact absurd g (by decide)
    have hn : σ 0 5 = 0 := by
      rcases hW.1 with h | h
      · exact h.2.1
      · rw [h0] at h; exact absurd h.1 (by decide)
    refine at_thr (by decide) (by decide) (hX ?_)
    unfold stk
    rw [hn]; rfl
  · have h1 : σ 0 0 = 1 := by
      rcases hW.1 with h | h
      · rw [hs.1, h.1] at g; exact absurd rfl g
      · exact h.1
    exact CS_loop hb hW (hB h1) (by decide) (by decide) (σ 0 5).toNat 0 0 _ _ rfl (Nat.zero_le _) rfl rfl hQ hX
/-- the reference's -/
theorem RS_loop (hW : WF σ) (h5 : mj 48 5 = nI (σ 0 5).toNat) (h54 : ∀ i : Nat, (i : Int) < σ 0 5 → mj 54 (31 + i) = zI (σ 2 i)) :
    ∀ n j a (l2 l3 : Int32), (σ 0 5).toNat - j = n → j ≤ (σ 0 5).toNat → l2 = nI a → l3 = nI j →
      (∀ i, stN σ x n j a = some i → Go m_r_stuck 9 [some (vR 19 0 48), some (vI x), some (vI l2), some (vI l3)] [] (some (vI (nI i))) c (MRc nb db by_ rs) mj mk mj mk) ∧ (stN σ x n j a = none → Go m_r_stuck 9 [some (vR 19 0 48), some (vI x), some (vI l2), some (vI l3)] [] (some (vI (nI 0))) c (MRc nb db by_ rs) mj mk (u2 mj 48 0 (nI 1)) mk) := by
  have hnn := hW.nn
  intro n
  induction n with
  | zero =>
    intro j a l2 l3 hn hj h2 h3
    refine ⟨fun i h => absurd h (by intro z; cases z), fun _ => g_r_stuck_9 ⟨fun _ => ⟨rfl, rfl, rfl⟩, fun z => absurd (by rw [h5, h3, nI_leI (by omega) (by omega)]; omega) z⟩⟩
  | succ n ih =>
    intro j a l2 l3 hn hj h2 h3
    have hjN : (j : Int) < σ 0 5 := by omega
    have e31 : nI 31 + l3 = nI (31 + j) := by rw [h3, nI_add]
    have nle : ¬ mj 48 5 ≤ l3 := by rw [h5, h3, nI_leI (by omega) (by omega)]; omega
    have ix : vp_in (nI 31 + l3) 63 := ixn e31 (by omega) (by decide)
    have ev : mj 54 (nI 31 + l3).toNatClampNeg = zI (σ 2 j) := by rw [cln e31 (by omega)]; exact h54 j hjN
    have nz : mj 54 (nI 31 + l3).toNatClampNeg = 0 ↔ σ 2 j = 0 := by
      rw [ev]
      rcases hW.shut j with z | z | z <;> rw [z] <;> decide
    by_cases h0 : σ 2 j = 0
    · have e : stN σ x (n + 1) j a = stN σ x n (j + 1) a := by
        show (if σ 2 j = 0 then _ else if nI a = x then _ else _) = _
        rw [if_pos h0]
      rw [e]
      obtain ⟨k1, k2⟩ := ih (j + 1) a _ _ (by omega) (by omega) h2 (inc h3)
      exact ⟨fun i hi => g_r_stuck_9 ⟨fun z => absurd z nle, fun _ => ⟨ix, fun z => absurd (nz.mpr h0) z, fun _ => k1 i hi⟩⟩, fun hi => g_r_stuck_9 ⟨fun z => absurd z nle, fun _ => ⟨ix, fun z => absurd (nz.mpr h0) z, fun _ => k2 hi⟩⟩⟩
    · by_cases hx : nI a = x
      · have e : stN σ x (n + 1) j a = some j := by
          show (if σ 2 j = 0 then _ else if nI a = x then _ else _) = _
          rw [if_neg h0, if_pos hx]
        rw [e]
        refine ⟨fun i hi => ?_, fun hi => by cases hi⟩
        cases hi
        exact g_r_stuck_9 ⟨fun z => absurd z nle, fun _ => ⟨ix, fun _ => ⟨fun z => absurd (h2.trans hx) z, fun _ => ⟨by rw [h3], rfl, rfl⟩⟩, fun z => absurd (nz.mp z) h0⟩⟩
      · have e : stN σ x (n + 1) j a = stN σ x n (j + 1) (a + 1) := by
          show (if σ 2 j = 0 then _ else if nI a = x then _ else _) = _
          rw [if_neg h0, if_neg hx]
        rw [e]
        have nx : ¬ l2 = x := fun z => hx (h2.symm.trans z)
        obtain ⟨k1, k2⟩ := ih (j + 1) (a + 1) _ _ (by omega) (by omega) (inc h2) (inc h3)
        exact ⟨fun i hi => g_r_stuck_9 ⟨fun z => absurd z nle, fun _ => ⟨ix, fun _ => ⟨fun _ => k1 i hi, fun z => absurd z nx⟩, fun z => absurd (nz.mp z) h0⟩⟩, fun hi => g_r_stuck_9 ⟨fun z => absurd z nle, fun _ => ⟨ix, fun _ => ⟨fun _ => k2 hi, fun z => absurd z nx⟩, fun z => absurd (nz.mp z) h0⟩⟩⟩
theorem RS_stuck (J : IR σ mj) : (∀ i, stk σ x = some i → Ret m_r_stuck [vR 19 0 48, vI x] (some (vI (nI i))) c (MRc nb db by_ rs) mj mk (u2 mj 48 0 (nI 0)) mk) ∧ (stk σ x = none → Ret m_r_stuck [vR 19 0 48, vI x] (some (vI (nI 0))) c (MRc nb db by_ rs) mj mk (u2 (u2 mj 48 0 (nI 0)) 48 0 (nI 1)) mk) := by
  obtain ⟨hW, hs, hB⟩ := J
  obtain ⟨k1, k2⟩ := RS_loop (nb := nb) (db := db) (by_ := by_) (rs := rs) (c := c) (mk := mk) (x := x) (mj := u2 mj 48 0 (nI 0)) hW (by rw [u2_ne2 _ _ (Or.inr (by decide)), hs.2.2.1]; exact z_nat hW.nn.1) (fun i hi => by rw [u2_o _ _ (by decide)]; exact hB.2.2.1 i hi) (σ 0 5).toNat 0 0 (nI 0) (nI 0) rfl (Nat.zero_le _) rfl rfl
  exact ⟨fun i hi => g_r_stuck_0 (k1 i hi), fun hi => g_r_stuck_0 (k2 hi)⟩
end
