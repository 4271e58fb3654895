/-! ===== masks: which colours are told; the table whole ===== -/
section
variable {nb db b : Nat} {by_ rs : RX} {c : Nat} {mi mj m : MI} {ml mk : ML} {μ : Nat → Nat} {i K N : Nat}
theorem R_hasOnly (hbb : b = 43 ∨ b = 5) (hN : N ≤ 31) (hn : mi b 0 = nI N) (hμ : ∀ q, q < K → μ q < 2 ^ N) (hK : K ≤ 12) (H : CMr μ K mi ml) (hi : i < K) {p : Nat} (hp : pvO μ z0 i = some p) {x : Int32} (hx : x = nI i) : Ret m_mt_hasOnlyPivot [vR 16 0 19, vR 13 0 b, vI x] (some (vI (bI (onR μ K (rk μ i))))) c (MRc nb db by_ rs) mi ml mi ml := by
  obtain ⟨f1, f2⟩ := (H i hi).1 p hp
  have p31 := (pv_sp hp).1
  have ept := PT_rk K hi hp
  have hrk := rk_lt hi hp
  have cx : x.toNatClampNeg = i := cln hx (by omega)
  have vx : vp_in x 12 := ixn hx (by omega) (by decide)
  refine g_mt_hasOnlyPivot_0 hbb ?_
  have key : ∀ j, j ≤ N → (∀ k, k < j → k ≠ p → XX (vsS μ z0 K) (psS μ z0 K) (rk μ i) k = 0) → ∀ k : Int32, k = nI j → Go m_mt_hasOnlyPivot 2 [some (vR 16 0 19), some (vR 13 0 b), some (vI x), some (vI k)] [] (some (vI (bI (onR μ K (rk μ i))))) c (MRc nb db by_ rs) mi ml mi ml := by
    refine upto ?_ ?_
    · intro hz k hk
      refine g_mt_hasOnlyPivot_2 hbb ⟨fun _ => ⟨?_, rfl, rfl⟩, fun g => absurd (lp_d hn hk) g⟩
      have : onR μ K (rk μ i) = true := onR_t.mpr (fun q hq hne => by
        rw [ept] at hne
        rcases Nat.lt_or_ge q N with g | g
        · exact hz q g hne
        · exact XX_hi hμ g hq hrk)
      rw [this]; rfl
    · intro j hj ih hz k hk
      have ck : k.toNatClampNeg = j := cln hk (by omega)
      by_cases e : j = p
      · refine g_mt_hasOnlyPivot_2 hbb ⟨fun g => absurd g (lp_g hn hk hj (by omega)), fun _ => ⟨vx, fun _ => ih (fun q hq hne => hz q (by omega) hne) _ (inc hk), fun g => absurd ?_ g⟩⟩
        rw [cx, f1, hk, e]
      · have hne : ¬ k = mi 34 x.toNatClampNeg := by rw [cx, f1, hk, nI_eq (by omega) (by omega)]; exact e
        by_cases hx0 : XX (vsS μ z0 K) (psS μ z0 K) (rk μ i) j = 0
        · refine g_mt_hasOnlyPivot_2 hbb ⟨fun g => absurd g (lp_g hn hk hj (by omega)), fun _ => ⟨vx, fun g => absurd g hne, fun _ => ⟨i, hx, by omega, ixn hk (by omega) (by decide), fun _ => ih (fun q hq hq2 => ?_) _ (inc hk), fun g => absurd ?_ g⟩⟩⟩
          · by_cases e2 : q = j
            · rw [e2]; exact hx0
            · exact hz q (by omega) hq2
          · rw [ck, f2 j (by omega), hx0]; rfl
        · refine g_mt_hasOnlyPivot_2 hbb ⟨fun g => absurd g (lp_g hn hk hj (by omega)), fun _ => ⟨vx, fun g => absurd g hne, fun _ => ⟨i, hx, by omega, ixn hk (by omega) (by decide), fun g => absurd g ?_, fun _ => ⟨?_, rfl, rfl⟩⟩⟩⟩
          · rw [ck, f2 j (by omega), zL_0 (XXb hK hrk (by omega))]; exact hx0
          · have : onR μ K (rk μ i) = false := Bool.eq_false_iff.mpr (fun h => hx0 (onR_t.mp h j (by omega) (by rw [ept]; exact e)))
            rw [this]; rfl
  exact key 0 (Nat.zero_le _) (fun k hk => by omega) _ rfl
/-- what the table tells -/
def CMt (μ : Nat → Nat) (K i : Nat) (mi : MI) : Prop := mi 19 1 = nI (bitsOf (tlB μ K i) 31) ∧ ∀ j, j < 31 → tlB μ K i j = true → ∃ q, q < i ∧ pvO μ z0 q = some j ∧ onR μ K (rk μ q) = true ∧ mi 20 j = nI q
theorem R_findTold (hbb : b = 43 ∨ b = 5) (hN : N ≤ 31) (hn : mi b 0 = nI N) (h4 : mi b 4 = nI K) (hμ : ∀ q, q < K → μ q < 2 ^ N) (hK : K ≤ 12) (H : CMr μ K mi ml) : ∃ m' : MI, Ret m_mt_findTold [vR 16 0 19, vR 13 0 b] none c (MRc nb db by_ rs) mi ml m' ml ∧ CMt μ K K m' ∧ (∀ k, k ≠ 1 → m' 19 k = mi 19 k) ∧ ∀ a, a ≠ 19 → a ≠ 20 → m' a = mi a := by
  have hb19 : b ≠ 19 ∧ b ≠ 20 := by omega
  have key : ∀ j, j ≤ K → ∀ (k : Int32) (m : MI), k = nI j → CMt μ K j m → (∀ k, k ≠ 1 → m 19 k = mi 19 k) → (∀ a, a ≠ 19 → a ≠ 20 → m a = mi a) → ∃ m' : MI, Go m_mt_findTold 7 [some (vR 16 0 19), some (vR 13 0 b), some (vI k)] [] none c (MRc nb db by_ rs) m ml m' ml ∧ CMt μ K K m' ∧ (∀ k, k ≠ 1 → m' 19 k = mi 19 k) ∧ ∀ a, a ≠ 19 → a ≠ 20 → m' a = mi a := by
    refine upto ?_ ?_
    · intro k m hk h1 h2 h3
      exact ⟨m, g_mt_findTold_7 hbb ⟨fun _ => ⟨rfl, rfl, rfl⟩, fun g => absurd (by rw [h3 b hb19.1 hb19.2, h4, hk]; exact Int32.le_refl _) g⟩, h1, h2, h3⟩
    · intro j hj ih k m hk h1 h2 h3
      have ck : k.toNatClampNeg = j := cln hk (by omega)
      have vk : vp_in k 12 := ixn hk (by omega) (by decide)
      have ng : ¬ m b 4 ≤ k := by rw [h3 b hb19.1 hb19.2, h4]; exact lp_g rfl hk hj (by omega)
      have Hm : CMr μ K m ml := fun q hq => by rw [h3 34 (by decide) (by decide)]; exact H q hq
      have stay : (∀ j', ¬ (pvO μ z0 j = some j' ∧ onR μ K (rk μ j) = true)) → CMt μ K (j + 1) m := fun h => by
        have e : tlB μ K (j + 1) = tlB μ K j := funext fun j' => tlB_no (h j')
        refine ⟨by rw [e]; exact h1.1, fun j' h31 ht => ?_⟩
        rw [e] at ht
        obtain ⟨q, g1, g2⟩ := h1.2 j' h31 ht
        exact ⟨q, by omega, g2⟩
      cases e : pvO μ z0 j with
      | none =>
        obtain ⟨f1, -⟩ := (H j hj).2 e
        obtain ⟨m', q1, q2⟩ := ih (k + nI 1) m (inc hk) (stay (fun j' h => by rw [e] at h; cases h.1)) h2 h3
        exact ⟨m', g_mt_findTold_7 hbb ⟨fun g => absurd g ng, fun _ => ⟨vk, fun _ => q1, fun g => absurd (by rw [ck, h3 34 (by decide) (by decide), f1]; decide) g⟩⟩, q2⟩
      | some p =>
        obtain ⟨f1, -⟩ := (H j hj).1 p e
        have p31 := (pv_sp e).1
        have e34 : m 34 k.toNatClampNeg = nI p := by rw [ck, h3 34 (by decide) (by decide), f1]
        have npv : ¬ m 34 k.toNatClampNeg < 0 := by
          rw [e34]
          exact fun g => absurd ((nI_ltI (by omega) (by decide)).mp (show nI p < nI 0 from g)) (by omega)
        have HO := R_hasOnly (nb := nb) (db := db) (by_ := by_) (rs := rs) (c := c) hbb hN (by rw [h3 b hb19.1 hb19.2]; exact hn) hμ hK Hm hj e hk
        cases ho : onR μ K (rk μ j) with
        | false =>
          rw [ho] at HO
          obtain ⟨m', q1, q2⟩ := ih (k + nI 1) m (inc hk) (stay (fun j' h => by rw [ho] at h; cases h.2)) h2 h3
          exact ⟨m', g_mt_findTold_7 hbb ⟨fun g => absurd g ng, fun _ => ⟨vk, fun g => absurd g npv, fun _ => ⟨_, HO, fun _ => q1, fun g => absurd rfl g⟩⟩⟩, q2⟩
        | true =>
          rw [ho] at HO
          have tp : tlB μ K (j + 1) p = true := tlB_t.mpr ⟨j, by omega, e, ho⟩
          have to : ∀ j', j' ≠ p → tlB μ K (j + 1) j' = tlB μ K j j' := fun j' h => tlB_no (fun g => h (Option.some.inj (g.1.symm.trans e)))
          have eb : m 19 1 ||| (nI 1 <<< (m 34 k.toNatClampNeg &&& 31)) = nI (bitsOf (tlB μ K (j + 1)) 31) := bits_on (by omega) p31 tp to h1.1 e34
          obtain ⟨m', q1, q2⟩ := ih (k + nI 1) (u2 (u2 m 19 1 (nI (bitsOf (tlB μ K (j + 1)) 31))) 20 p k) (inc hk) ⟨by rw [u2_o _ _ (by decide), u2_s], fun j' h31 ht => by
            by_cases e2 : j' = p
            · rw [e2, u2_s]; exact ⟨j, by omega, e, ho, hk⟩
            · rw [to j' e2] at ht
              obtain ⟨q, g1, g2, g3, g4⟩ := h1.2 j' h31 ht
              exact ⟨q, by omega, g2, g3, by rw [u2_ne2 _ _ (Or.inr e2), u2_o _ _ (by decide)]; exact g4⟩⟩ (fun k' hk' => by rw [u2_o _ _ (by decide), u2_ne2 _ _ (Or.inr hk')]; exact h2 k' hk') (fun a a1 a2 => by rw [u2_o _ _ a2, u2_o _ _ a1]; exact h3 a a1 a2)
          refine ⟨m', g_mt_findTold_7 hbb ⟨fun g => absurd g ng, fun _ => ⟨vk, fun g => absurd g npv, fun _ => ⟨_, HO, fun g => absurd g (by decide), fun _ => ⟨vk, vk, ixn e34 (by omega) (by decide), ?_⟩⟩⟩⟩, q2⟩
          rw [eb, cln e34 (by omega)]; exact q1
  have e0 : bitsOf (tlB μ K 0) 31 = 0 := by
    have : tlB μ K 0 = fun _ => false := funext fun j => Bool.eq_false_iff.mpr (fun h => by obtain ⟨q, hq, -⟩ := tlB_t.mp h; omega)
    rw [this]; rfl
  obtain ⟨m', p1, p2, p3, p4⟩ := key 0 (Nat.zero_le _) (nI 0) (u2 mi 19 1 (nI 0)) rfl ⟨by rw [u2_s, e0], fun j _ h => by obtain ⟨q, hq, -⟩ := tlB_t.mp h; omega⟩ (fun k hk => u2_ne2 _ _ (Or.inr hk)) (fun a a1 _ => u2_o _ _ a1)
  exact ⟨m', g_mt_findTold_0 hbb p1, p2, p3, p4⟩
/-- the class's table of masks -/
def CTb (μ : Nat → Nat) (K : Nat) (mi : MI) (ml : ML) : Prop := CMs μ K mi ml ∧ CMt μ K K mi
theorem R_build (hbb : b = 43 ∨ b = 5) (hN : N ≤ 31) (hn : mi b 0 = nI N) (h4 : mi b 4 = nI K) (hm : ∀ q, q < K → mi (b + 4) q = nI (μ q)) (hμ : ∀ q, q < K → μ q < 2 ^ N) (hK : K ≤ 12) : ∃ (m' : MI) (l' : ML), Ret m_mt_build [vR 16 0 19, vR 13 0 b] none c (MRc nb db by_ rs) mi ml m' l' ∧ CTb μ K m' l' ∧ (∀ a, a ≠ 19 → a ≠ 20 → a ≠ 34 → m' a = mi a) ∧ ∀ a, a ≠ 19 → a < 22 ∨ 33 < a → l' a = ml a := by
  have hb19 : b ≠ 19 ∧ b ≠ 34 ∧ b + 4 ≠ 19 ∧ b + 4 ≠ 34 ∧ b ≠ 20 := by omega
  have h31 : 2 ^ N ≤ 2 ^ 31 := p31 hN
  have key : ∀ j, j ≤ K → ∀ (k : Int32) (m : MI) (l : ML), k = nI j → CMs μ j m l → (∀ a, a ≠ 19 → a ≠ 34 → m a = mi a) → (∀ a, a ≠ 19 → a < 22 ∨ 33 < a → l a = ml a) → ∃ (m' : MI) (l' : ML), Go m_mt_build 12 [some (vR 16 0 19), some (vR 13 0 b), some (vI k)] [] none c (MRc nb db by_ rs) m l m' l' ∧ CTb μ K m' l' ∧ (∀ a, a ≠ 19 → a ≠ 20 → a ≠ 34 → m' a = mi a) ∧ ∀ a, a ≠ 19 → a < 22 ∨ 33 < a → l' a = ml a := by
    refine upto ?_ ?_
    · intro k m l hk H h2 h3
      obtain ⟨m', q1, q2, q3, q4⟩ := R_findTold (nb := nb) (db := db) (by_ := by_) (rs := rs) (c := c) (ml := l) hbb hN (by rw [h2 b hb19.1 hb19.2.1]; exact hn) (by rw [h2 b hb19.1 hb19.2.1]; exact h4) hμ hK H.2.2
      refine ⟨m', l, g_mt_build_12 hbb ⟨fun _ => ⟨_, _, q1, rfl, rfl, rfl⟩, fun g => absurd (by rw [h2 b hb19.1 hb19.2.1, h4, hk]; exact Int32.le_refl _) g⟩, ⟨⟨H.1, by rw [q3 0 (by decide)]; exact H.2.1, fun q hq => by rw [q4 34 (by decide) (by decide)]; exact H.2.2 q hq⟩, q2⟩, fun a a1 a2 a3 => by rw [q4 a a1 a2, h2 a a1 a3], h3⟩
    · intro j hj ih k m l hk H h2 h3
      have ck : k.toNatClampNeg = j := cln hk (by omega)
      have vk : vp_in k 12 := ixn hk (by omega) (by decide)
      have ng : ¬ m b 4 ≤ k := by rw [h2 b hb19.1 hb19.2.1, h4]; exact lp_g rfl hk hj (by omega)
      have hμj : μ j < 2 ^ 31 := Nat.lt_of_lt_of_le (hμ j hj) h31
      obtain ⟨l1, a1, a2, a3⟩ := R_load (nb := nb) (db := db) (by_ := by_) (rs := rs) (c := c) hbb hμj (by omega) (by rw [h2 (b + 4) hb19.2.2.1 hb19.2.2.2.1]; exact hm j hj) H hk
      have F1 := R_first (nb := nb) (db := db) (by_ := by_) (rs := rs) (c := c) (mi := m) (ml := l1) hbb hN (by rw [h2 b hb19.1 hb19.2.1]; exact hn) (fun q hq => hμ q (by omega)) (show j < 12 by omega) a2 hk
      obtain ⟨H1, H2, H3⟩ := H
      cases e : pvO μ z0 j with
      | none =>
        rw [e] at F1
        have Hn : CMs μ (j + 1) (u2 m 34 j (pvI none)) l1 := by
          refine ⟨by rw [a3 19 (by omega), vs_n e, ps_n e]; exact H1, by rw [u2_o _ _ (by decide), rk_n e]; exact H2, fun q hq => ?_⟩
          by_cases eq : q = j
          · rw [eq]
            refine ⟨(fun p hp => by rw [e] at hp; cases hp), fun _ => ⟨u2_s _ _ _ _, a2⟩⟩
          · have h5 := H3 q (by omega)
            rw [u2_ne2 _ _ (Or.inr eq), a3 (22 + q) (by omega), vs_n e, ps_n e]; exact h5
        obtain ⟨m', l', q1, q2⟩ := ih (k + nI 1) (u2 m 34 j (pvI none)) l1 (inc hk) Hn (fun a b1 b2 => by rw [u2_o _ _ b2]; exact h2 a b1 b2) (fun a b1 b2 => by rw [a3 a (by omega)]; exact h3 a b1 b2)
        refine ⟨m', l', g_mt_build_12 hbb ⟨fun g => absurd g ng, fun _ => ⟨_, _, a1, _, F1, vk, vk, fun _ => ?_, fun g => absurd ?_ g⟩⟩, q2⟩
        · rw [ck]; exact q1
        · rw [ck, u2_s]; show -(nI 1) < 0; decide
      | some p =>
        rw [e] at F1
        have p31' := (pv_sp e).1
        have Hc : CMr μ j (u2 m 34 j (pvI (some p))) l1 := fun q hq => by
          have h5 := H3 q hq
          rw [u2_ne2 _ _ (Or.inr (by omega)), a3 (22 + q) (by omega)]; exact h5
        obtain ⟨l2, w1, w2, w3, w4, w5, w6⟩ := R_clearPivot (nb := nb) (db := db) (by_ := by_) (rs := rs) (c := c) (mi := u2 m 34 j (pvI (some p))) (ml := l1) (show j < 12 by omega) e Hc (by rw [a3 19 (by omega)]; exact H1) a2 hk (y := nI p) rfl
        have Hn : CMs μ (j + 1) (u2 (u2 m 34 j (pvI (some p))) 19 0 (nI (rk μ j) + nI 1)) l2 := by
          refine ⟨w2, by rw [u2_s, nI_add, rk_s e], fun q hq => ?_⟩
          rw [u2_o _ _ (by decide)]
          by_cases eq : q = j
          · rw [eq]
            refine ⟨fun p' hp' => ⟨?_, w4⟩, fun h => by rw [e] at h; cases h⟩
            rw [u2_s, Option.some.inj (e.symm.trans hp')]; rfl
          · have h5 := H3 q (by omega)
            rw [u2_ne2 _ _ (Or.inr eq)]
            exact ⟨fun p' hp' => ⟨(h5.1 p' hp').1, w3 q (by omega) p' hp'⟩, fun hp' => ⟨(h5.2 hp').1, fun k' hk' => by rw [w5 q (by omega) hp', a3 (22 + q) (by omega)]; exact (h5.2 hp').2 k' hk'⟩⟩
        obtain ⟨m', l', q1, q2⟩ := ih (k + nI 1) _ l2 (inc hk) Hn (fun a b1 b2 => by rw [u2_o _ _ b1, u2_o _ _ b2]; exact h2 a b1 b2) (fun a b1 b2 => by rw [w6 a b1 b2, a3 a (by omega)]; exact h3 a b1 b2)
        refine ⟨m', l', g_mt_build_12 hbb ⟨fun g => absurd g ng, fun _ => ⟨_, _, a1, _, F1, vk, vk, fun g => absurd g ?_, fun _ => ⟨vk, u2 m 34 j (pvI (some p)), l2, ?_, ?_⟩⟩⟩, q2⟩
        · rw [ck, u2_s]
          exact fun g => absurd ((nI_ltI (by omega) (by decide)).mp (show nI p < nI 0 from g)) (by omega)
        · rw [ck, u2_s]; exact w1
        · rw [u2_o _ _ (show (19 : Nat) ≠ 34 by decide), H2]; exact q1
  obtain ⟨m', l', p1, p2⟩ := key 0 (Nat.zero_le _) (nI 0) (u2 mi 19 0 (nI 0)) (u2 ml 19 2 (lN 1)) rfl ⟨by rw [u2_s]; rfl, by rw [u2_s]; rfl, fun q hq => absurd hq (Nat.not_lt_zero q)⟩ (fun a a1 _ => u2_o _ _ a1) (fun a a1 _ => u2_o _ _ a1)
  exact ⟨m', l', g_mt_build_0 hbb p1, p2⟩
end
