/-! ===== suspects: one suspect, how many, the i-th; the class ===== -/
theorem bq_open {s j k : Nat} {q : Nat} (hq : q % 2 = 1) (ej : (q - 1) / 2 = j) : bt (s ||| 2 ^ j) k = bQ q s k := by
  unfold bQ
  rw [if_neg (by omega), if_pos hq, ej, bt_tb, bt_tb, Nat.testBit_or, Nat.testBit_two_pow]
  by_cases e : k = j
  · subst e; simp
  · rw [if_neg e]
    have : (decide (j = k)) = false := decide_eq_false (fun z => e z.symm)
    rw [this, Bool.or_false]
theorem bq_shut {s j k : Nat} {q : Nat} (hq0 : q ≠ 0) (hq : ¬ q % 2 = 1) (ej : (q - 1) / 2 = j) (hk : k < 32) : bt (s &&& (2 ^ j ^^^ (2 ^ 32 - 1))) k = bQ q s k := by
  unfold bQ
  rw [if_neg hq0, if_neg hq, ej, bt_tb, bt_tb, Nat.testBit_and, Nat.testBit_xor, Nat.testBit_two_pow, Nat.testBit_two_pow_sub_one]
  by_cases e : k = j
  · subst e; simp [hk]
  · rw [if_neg e]
    have : (decide (j = k)) = false := decide_eq_false (fun z => e z.symm)
    rw [this]
    simp [hk]
theorem m1_eq : -(nI 1) = nI (2 ^ 32 - 1) := by decide
/-- what the class's bits come to -/
theorem bits_c {σ : SG} {q : Nat} {o s : Int32} (hq : (q = 0 ∧ o = nI 0 ∧ s = nI 0) ∨ (q % 2 = 1 ∧ (q - 1) / 2 < 31 ∧ o = nI (2 ^ ((q - 1) / 2)) ∧ s = nI 0) ∨ (q ≠ 0 ∧ q % 2 = 0 ∧ (q - 1) / 2 < 31 ∧ o = nI 0 ∧ s = nI (2 ^ ((q - 1) / 2)))) {z : Int} (hz : 0 ≤ z ∧ z < 2147483648) : ∃ t : Nat, t < 2 ^ 31 ∧ (zI z &&& (s ^^^ -(nI 1))) ||| o = nI t ∧ ∀ k, k < 32 → bt t k = bQ q z.toNat k := by
  have ez := z_nat hz.1
  have hz31 : z.toNat < 2 ^ 31 := by omega
  rw [ez, m1_eq]
  rcases hq with ⟨h1, h2, h3⟩ | ⟨h1, hj, h2, h3⟩ | ⟨h0, h1, hj, h2, h3⟩
  · refine ⟨z.toNat, hz31, ?_, fun k _ => ?_⟩
    · rw [h2, h3, nI_xor, nI_and, nI_or]
      congr 1
      rw [Nat.zero_xor, Nat.or_zero, Nat.and_two_pow_sub_one_eq_mod, Nat.mod_eq_of_lt (by omega)]
    · unfold bQ; rw [if_pos h1]
  · refine ⟨z.toNat ||| 2 ^ ((q - 1) / 2), Nat.or_lt_two_pow hz31 (p2_lt hj), ?_, fun k _ => bq_open h1 rfl⟩
    rw [h2, h3, nI_xor, nI_and, nI_or]
    congr 1
    rw [Nat.zero_xor, Nat.and_two_pow_sub_one_eq_mod, Nat.mod_eq_of_lt (by omega)]
  · refine ⟨z.toNat &&& (2 ^ ((q - 1) / 2) ^^^ (2 ^ 32 - 1)), Nat.lt_of_le_of_lt Nat.and_le_left hz31, ?_, fun k hk => bq_shut h0 (by omega) rfl hk⟩
    rw [h2, h3, nI_xor, nI_and, nI_or, Nat.or_zero]
section
variable {nb db b : Nat} {by_ rs : RX} {c : Nat} {σ : SG} {mi mj : MI} {ml mk : ML} {x j : Int32}
theorem SU.fr (S : SU σ b mi ml) (hbb : b = 43 ∨ b = 5) {m : MI} (h : F18 mi m) : SU σ b m ml := by
  obtain ⟨a1, a2, a3, a4, a5, a6, a7⟩ := S
  exact ⟨a1, a2, h.B hbb a3, a4, by rw [h 11 (by decide)]; exact a5, fun i hi => by rw [h 12 (by decide), h 13 (by decide)]; exact a6 i hi, a7⟩
theorem lg_iff {q : Nat} {v : Nat → Int} (hv : ∀ k : Nat, (k : Int) < σ 0 5 → v k = xQ σ q k) : (∀ i : Nat, (i : Int) < σ 0 11 → lgV σ v (fun i k => bQ q (σ 5 i).toNat k) i) ↔ LG σ q := by
  have e : ∀ i : Nat, σ 0 7 + sumZ (fun k => ((bQ q (σ 5 i).toNat k : Nat) : Int) * v k) (σ 0 5).toNat = rdQ σ q (σ 5 i).toNat := fun i => by
    unfold rdQ
    rw [sumZ_cg (σ 0 5).toNat (fun k hk => by rw [hv k (by omega)])]
  constructor
  · intro h i hi
    have := h i hi
    unfold lgV at this
    rw [e i] at this
    exact this
  · intro h i hi
    unfold lgV
    rw [e i]
    exact h i hi
theorem two_h {q : Nat} {a : Int32} (ha : a = nI q) (hq0 : q ≠ 0) (hq : q < 1000) : (a - nI 1) / nI 2 = nI ((q - 1) / 2) ∧ ¬ a = 0 ∧ ((a &&& nI 1 = nI 1) ↔ q % 2 = 1) ∧ (rmI a (nI 2) = nI 1 ↔ q % 2 = 1) := by
  refine ⟨?_, ?_, ?_, ?_⟩
  · rw [ha, nI_sub (by omega), pk_div (by omega) (by decide) (by decide)]
  · rw [ha]; intro z; have := nI_ne0' (by omega) z; omega
  · have e : nI q &&& nI 1 = nI (q % 2) := pk_andN (by omega) (m := nI 1) 1 (by decide)
    rw [ha, e, nI_eq (by omega) (by decide)]
  · rw [ha]
    have e : rmI (nI q) (nI 2) = nI (q % 2) := pk_rem (by omega) (by decide) (by decide)
    rw [e, nI_eq (by omega) (by decide)]
/-- one suspect -/
theorem R_holds (hbb : b = 43 ∨ b = 5) (S : SU σ b mi ml) {q : Nat} (hq : (q : Int) ≤ 2 * σ 0 5) {a : Int32} (ha : a = nI q) : ∃ m', F18 mi m' ∧ ((SP σ q ∧ Ret m_su_holds [vR 15 0 17, vI a, vR 13 0 b, vR 14 0 11] (some (vI (nI 1))) c (MRc nb db by_ rs) mi ml m' ml ∧ ∀ k : Nat, (k : Int) < σ 0 5 → m' 18 k = zI (xQ σ q k)) ∨ (¬ SP σ q ∧ Ret m_su_holds [vR 15 0 17, vI a, vR 13 0 b, vR 14 0 11] (some (vI (nI 0))) c (MRc nb db by_ rs) mi ml m' ml)) := by
  have S' := S
  obtain ⟨hW, hr, hB, hbk, hL, hl, hlb⟩ := S
  obtain ⟨n, hn, h31⟩ := wf_n hW
  have nd := hW.nn
  -- the end of each: sums, log
  have fin : ∀ (m : MI) (o s : Int32), F18 mi m → Dv σ q → Rg σ q → SHs σ q → (∀ k : Nat, (k : Int) < σ 0 5 → m 18 k = zI (xQ σ q k)) → ((q = 0 ∧ o = nI 0 ∧ s = nI 0) ∨ (q % 2 = 1 ∧ (q - 1) / 2 < 31 ∧ o = nI (2 ^ ((q - 1) / 2)) ∧ s = nI 0) ∨ (q ≠ 0 ∧ q % 2 = 0 ∧ (q - 1) / 2 < 31 ∧ o = nI 0 ∧ s = nI (2 ^ ((q - 1) / 2)))) →
      (SP σ q ∧ Ret m_su_sumIsRight [vR 15 0 17, vR 13 0 b] (some (vI (nI 1))) c (MRc nb db by_ rs) m ml m ml ∧ Ret m_su_logIsRight [vR 15 0 17, vR 13 0 b, vR 14 0 11, vI o, vI s] (some (vI (nI 1))) c (MRc nb db by_ rs) m ml m ml) ∨ (¬ SP σ q ∧ (Ret m_su_sumIsRight [vR 15 0 17, vR 13 0 b] (some (vI (nI 0))) c (MRc nb db by_ rs) m ml m ml ∨ (Ret m_su_sumIsRight [vR 15 0 17, vR 13 0 b] (some (vI (nI 1))) c (MRc nb db by_ rs) m ml m ml ∧ Ret m_su_logIsRight [vR 15 0 17, vR 13 0 b, vR 14 0 11, vI o, vI s] (some (vI (nI 0))) c (MRc nb db by_ rs) m ml m ml))) := by
    intro m o s hm hD hR hS hv ho
    have hBm := hm.B hbb hB
    obtain ⟨-, -, -, -, hLm, hlm, -⟩ := S'.fr hbb hm
    rcases R_sum (nb := nb) (db := db) (by_ := by_) (rs := rs) (c := c) (ml := ml) hbb hW hBm hv hR with ⟨s1, s2⟩ | ⟨s1, s2⟩
    · rcases R_log (nb := nb) (db := db) (by_ := by_) (rs := rs) (c := c) (ml := ml) hbb hW hBm hLm hlm (fun i hi => (hlb i hi).2) hv hR (o := o) (s := s) (B := fun i k => bQ q (σ 5 i).toNat k) (fun i hi => by
        obtain ⟨t, t1, t2, t3⟩ := bits_c (σ := σ) ho (hlb i hi).1
        exact ⟨t, t1, t2, fun k hk => t3 k (by omega)⟩) with ⟨l1, l2⟩ | ⟨l1, l2⟩
      · exact Or.inl ⟨⟨hD, hR, s1, hS, (lg_iff (fun _ _ => rfl)).mp l1⟩, s2, l2⟩
      · exact Or.inr ⟨fun z => l1 ((lg_iff (fun _ _ => rfl)).mpr z.2.2.2.2), Or.inr ⟨s2, l2⟩⟩
    · exact Or.inr ⟨fun z => s1 z.2.2.1, Or.inl s2⟩
  by_cases hq0 : q = 0
  · have ha0 : a = 0 := by rw [ha, hq0]; rfl
    have eD : Dv σ q ∧ Rg σ q ↔ ∀ k : Nat, (k : Int) < σ 0 5 → pt (backZ σ k) (σ 0 5 + 1) := by
      unfold Dv Rg
      constructor
      · intro h k hk
        have h1 := h.1 k hk
        have h2 := h.2 k hk
        rw [if_pos hq0] at h1
        unfold xQ at h2
        rw [if_pos hq0] at h2
        exact ⟨h1, h2⟩
      · intro h
        refine ⟨fun k hk => ?_, fun k hk => ?_⟩
        · rw [if_pos hq0]; exact (h k hk).1
        · unfold xQ; rw [if_pos hq0]; exact (h k hk).2
    obtain ⟨m', f1, f2⟩ := S_fine (nb := nb) (db := db) (by_ := by_) (rs := rs) (c := c) hbb S'
    rcases f2 with ⟨g1, g2, g3⟩ | ⟨g1, g2⟩
    · have hDR := eD.mpr g1
      have hv : ∀ k : Nat, (k : Int) < σ 0 5 → m' 18 k = zI (xQ σ q k) := fun k hk => by rw [g3 k hk]; unfold xQ; rw [if_pos hq0]
      rcases fin m' (nI 0) (nI 0) f1 hDR.1 hDR.2 (fun z => absurd hq0 z) hv (Or.inl ⟨hq0, rfl, rfl⟩) with ⟨p1, p2, p3⟩ | ⟨p1, p2 | ⟨p2, p3⟩⟩
      · exact ⟨m', f1, Or.inl ⟨p1, g_su_holds_0 hbb ⟨fun g => absurd ha0 g, fun _ => ⟨_, _, _, g2, fun g => absurd g n10, fun _ => ⟨_, p2, fun g => absurd g n10, fun _ => ⟨_, p3, fun g => absurd g n10, fun _ => ⟨rfl, rfl, rfl⟩⟩⟩⟩⟩, hv⟩⟩
      · exact ⟨m', f1, Or.inr ⟨p1, g_su_holds_0 hbb ⟨fun g => absurd ha0 g, fun _ => ⟨_, _, _, g2, fun g => absurd g n10, fun _ => ⟨_, p2, fun _ => ⟨rfl, rfl, rfl⟩, fun g => absurd rfl g⟩⟩⟩⟩⟩
      · exact ⟨m', f1, Or.inr ⟨p1, g_su_holds_0 hbb ⟨fun g => absurd ha0 g, fun _ => ⟨_, _, _, g2, fun g => absurd g n10, fun _ => ⟨_, p2, fun g => absurd g n10, fun _ => ⟨_, p3, fun _ => ⟨rfl, rfl, rfl⟩, fun g => absurd rfl g⟩⟩⟩⟩⟩⟩
    · exact ⟨m', f1, Or.inr ⟨fun z => g1 (eD.mp ⟨z.1, z.2.1⟩), g_su_holds_0 hbb ⟨fun g => absurd ha0 g, fun _ => ⟨_, _, _, g2, fun _ => ⟨rfl, rfl, rfl⟩, fun g => absurd rfl g⟩⟩⟩⟩
  · obtain ⟨j, ej⟩ : ∃ j, (q - 1) / 2 = j := ⟨_, rfl⟩
    have hj : j < n := by omega
    obtain ⟨t1, t2, t3, -⟩ := two_h ha hq0 (by omega)
    rw [ej] at t1
    have sh1 : nI 1 <<< ((a - nI 1) / nI 2 &&& 31) = nI (2 ^ ((q - 1) / 2)) := by
      have := p2_lt (show j < 31 by omega)
      rw [t1, shl_n rfl rfl (by omega) (by omega), Nat.one_mul, ej]
    have c1 : ¬ (a - nI 1) / nI 2 < 0 := by rw [t1]; exact nI_pos (by omega)
    have c2 : ¬ mi b 0 ≤ (a - nI 1) / nI 2 := lp_g (hB.n hn) t1 hj (by omega)
    by_cases ho : q % 2 = 1
    · have eD : Dv σ q ∧ Rg σ q ↔ ∀ k : Nat, (k : Int) < σ 0 5 → ptO σ j k := by
        unfold Dv Rg
        constructor
        · intro h k hk
          have h1 := h.1 k hk
          have h2 := h.2 k hk
          rw [if_neg hq0, if_pos ho, ej] at h1
          unfold xQ at h2
          rw [if_neg hq0, if_pos ho, ej] at h2
          unfold ptO
          by_cases e : k = j
          · rw [if_pos e] at h1 h2 ⊢; exact ⟨h1, h2⟩
          · rw [if_neg e] at h1 h2 ⊢; exact ⟨h1, h2⟩
        · intro h
          refine ⟨fun k hk => ?_, fun k hk => ?_⟩
          · have := h k hk
            unfold ptO at this
            rw [if_neg hq0, if_pos ho, ej]
            by_cases e : k = j
            · rw [if_pos e] at this ⊢; exact this.1
            · rw [if_neg e] at this ⊢; exact this.1
          · have := h k hk
            unfold ptO at this
            unfold xQ
            rw [if_neg hq0, if_pos ho, ej]
            by_cases e : k = j
            · rw [if_pos e] at this ⊢; exact this.2
            · rw [if_neg e] at this ⊢; exact this.2
      obtain ⟨m', f1, f2⟩ := S_open (nb := nb) (db := db) (by_ := by_) (rs := rs) (c := c) hbb S' t1 (by omega)
      rcases f2 with ⟨g1, g2, g3⟩ | ⟨g1, g2⟩
      · have hDR := eD.mpr g1
        have hv : ∀ k : Nat, (k : Int) < σ 0 5 → m' 18 k = zI (xQ σ q k) := fun k hk => by
          rw [g3 k hk]; unfold xQ xO; rw [if_neg hq0, if_pos ho, ej]
        rcases fin m' (nI 1 <<< ((a - nI 1) / nI 2 &&& 31)) (nI 0) f1 hDR.1 hDR.2 (fun _ z => by omega) hv (Or.inr (Or.inl ⟨ho, by omega, sh1, rfl⟩)) with ⟨p1, p2, p3⟩ | ⟨p1, p2 | ⟨p2, p3⟩⟩
        · exact ⟨m', f1, Or.inl ⟨p1, g_su_holds_0 hbb ⟨fun _ => ⟨fun g => absurd g c1, fun _ => ⟨fun g => absurd g c2, fun _ => ⟨fun g => absurd (t3.mpr ho) g, fun _ => ⟨_, _, _, g2, fun g => absurd g n10, fun _ => ⟨_, p2, fun g => absurd g n10, fun _ => ⟨_, p3, fun g => absurd g n10, fun _ => ⟨rfl, rfl, rfl⟩⟩⟩⟩⟩⟩⟩, fun g => absurd g t2⟩, hv⟩⟩
        · exact ⟨m', f1, Or.inr ⟨p1, g_su_holds_0 hbb ⟨fun _ => ⟨fun g => absurd g c1, fun _ => ⟨fun g => absurd g c2, fun _ => ⟨fun g => absurd (t3.mpr ho) g, fun _ => ⟨_, _, _, g2, fun g => absurd g n10, fun _ => ⟨_, p2, fun _ => ⟨rfl, rfl, rfl⟩, fun g => absurd rfl g⟩⟩⟩⟩⟩, fun g => absurd g t2⟩⟩⟩
        · exact ⟨m', f1, Or.inr ⟨p1, g_su_holds_0 hbb ⟨fun _ => ⟨fun g => absurd g c1, fun _ => ⟨fun g => absurd g c2, fun _ => ⟨fun g => absurd (t3.mpr ho) g, fun _ => ⟨_, _, _, g2, fun g => absurd g n10, fun _ => ⟨_, p2, fun g => absurd g n10, fun _ => ⟨_, p3, fun _ => ⟨rfl, rfl, rfl⟩, fun g => absurd rfl g⟩⟩⟩⟩⟩⟩, fun g => absurd g t2⟩⟩⟩
      · exact ⟨m', f1, Or.inr ⟨fun z => g1 (eD.mp ⟨z.1, z.2.1⟩), g_su_holds_0 hbb ⟨fun _ => ⟨fun g => absurd g c1, fun _ => ⟨fun g => absurd g c2, fun _ => ⟨fun g => absurd (t3.mpr ho) g, fun _ => ⟨_, _, _, g2, fun _ => ⟨rfl, rfl, rfl⟩, fun g => absurd rfl g⟩⟩⟩⟩, fun g => absurd g t2⟩⟩⟩
    · have hev : q % 2 = 0 := by omega
      have en : (σ 0 5).toNat = n := by omega
      have rsn : rS σ j n = sumZ (xB σ) n - xB σ j := by
        unfold rS
        rw [sum_but (fun i => if i = j then 0 else xB σ i) (xB σ) n (fun k hk => if_neg hk), if_pos hj, if_pos rfl]; omega
      have xj : xQ σ q j = mon σ - rS σ j n := by
        unfold xQ; rw [if_neg hq0, if_neg ho, ej, if_pos rfl, en, rsn]
      have xk : ∀ k, k ≠ j → xQ σ q k = xB σ k := fun k hk => by
        unfold xQ; rw [if_neg hq0, if_neg ho, ej, if_neg hk]
      have bjm := hbk j (by omega)
      have bbj := back_bd hW j
      by_cases hz : backZ σ j = 0
      · have eD : Dv σ q ∧ Rg σ q ↔ ptS σ j := by
          unfold Dv Rg ptS
          rw [en]
          constructor
          · intro h
            refine ⟨fun k hk hkj => ?_, ?_⟩
            · have h1 := h.1 k hk
              have h2 := h.2 k hk
              rw [if_neg hq0, if_neg ho] at h1
              rw [xk k hkj] at h2
              exact ⟨h1, h2⟩
            · have := h.2 j (by omega)
              rw [xj] at this
              exact this
          · intro h
            refine ⟨fun k hk => ?_, fun k hk => ?_⟩
            · rw [if_neg hq0, if_neg ho]
              by_cases e : k = j
              · rw [e, hz, Int.zero_tmod]
              · exact (h.1 k hk e).1
            · by_cases e : k = j
              · rw [e, xj]; exact h.2
              · rw [xk k e]; exact (h.1 k hk e).2
        obtain ⟨m', f1, f2⟩ := S_shutL (nb := nb) (db := db) (by_ := by_) (rs := rs) (c := c) hbb S' t1 hn hj 0 (by omega) (nI 0) ((zI (mon σ)).toInt64) mi rfl (by
          have := mon_bd hW
          rw [zI_l ⟨by omega, by omega⟩]; show _ = zL (mon σ - 0); rw [Int.sub_zero]) (fun _ _ => rfl) (fun i h => by omega)
        have rt : ∀ r, Go m_su_supposeShut 23 [some (vR 15 0 17), some (vI ((a - nI 1) / nI 2)), some (vR 13 0 b), some (vR 14 0 11), some (vL (zI (mon σ)).toInt64), none, some (vI (nI 0))] [] (some (vI r)) c (MRc nb db by_ rs) mi ml m' ml → Ret m_su_supposeShut [vR 15 0 17, vI ((a - nI 1) / nI 2), vR 13 0 b, vR 14 0 11] (some (vI r)) c (MRc nb db by_ rs) mi ml m' ml := fun r G =>
          g_su_supposeShut_0 hbb ⟨ixn t1 (by omega) (by decide), fun _ => ⟨_, R_monitor hbb hW hB, G⟩, fun g => absurd (by rw [cln t1 (by omega), bjm, hz]; rfl) g⟩
        rcases f2 with ⟨g1, g2, g3⟩ | ⟨g1, g2⟩
        · have hDR := eD.mpr g1
          have hv : ∀ k : Nat, (k : Int) < σ 0 5 → m' 18 k = zI (xQ σ q k) := fun k hk => by
            rw [g3 k (by omega)]
            by_cases e : k = j
            · rw [if_pos e, e, xj]
            · rw [if_neg e, xk k e]
          rcases fin m' (nI 0) (nI 1 <<< ((a - nI 1) / nI 2 &&& 31)) f1 hDR.1 hDR.2 (fun _ _ => by rw [ej]; exact hz) hv (Or.inr (Or.inr ⟨hq0, hev, by omega, rfl, sh1⟩)) with ⟨p1, p2, p3⟩ | ⟨p1, p2 | ⟨p2, p3⟩⟩
          · exact ⟨m', f1, Or.inl ⟨p1, g_su_holds_0 hbb ⟨fun _ => ⟨fun g => absurd g c1, fun _ => ⟨fun g => absurd g c2, fun _ => ⟨fun _ => ⟨_, _, _, rt _ g2, fun g => absurd g n10, fun _ => ⟨_, p2, fun g => absurd g n10, fun _ => ⟨_, p3, fun g => absurd g n10, fun _ => ⟨rfl, rfl, rfl⟩⟩⟩⟩, fun g => absurd (t3.mp g) ho⟩⟩⟩, fun g => absurd g t2⟩, hv⟩⟩
          · exact ⟨m', f1, Or.inr ⟨p1, g_su_holds_0 hbb ⟨fun _ => ⟨fun g => absurd g c1, fun _ => ⟨fun g => absurd g c2, fun _ => ⟨fun _ => ⟨_, _, _, rt _ g2, fun g => absurd g n10, fun _ => ⟨_, p2, fun _ => ⟨rfl, rfl, rfl⟩, fun g => absurd rfl g⟩⟩, fun g => absurd (t3.mp g) ho⟩⟩⟩, fun g => absurd g t2⟩⟩⟩
          · exact ⟨m', f1, Or.inr ⟨p1, g_su_holds_0 hbb ⟨fun _ => ⟨fun g => absurd g c1, fun _ => ⟨fun g => absurd g c2, fun _ => ⟨fun _ => ⟨_, _, _, rt _ g2, fun g => absurd g n10, fun _ => ⟨_, p2, fun g => absurd g n10, fun _ => ⟨_, p3, fun _ => ⟨rfl, rfl, rfl⟩, fun g => absurd rfl g⟩⟩⟩, fun g => absurd (t3.mp g) ho⟩⟩⟩, fun g => absurd g t2⟩⟩⟩
        · exact ⟨m', f1, Or.inr ⟨fun z => g1 (eD.mp ⟨z.1, z.2.1⟩), g_su_holds_0 hbb ⟨fun _ => ⟨fun g => absurd g c1, fun _ => ⟨fun g => absurd g c2, fun _ => ⟨fun _ => ⟨_, _, _, rt _ g2, fun _ => ⟨rfl, rfl, rfl⟩, fun g => absurd rfl g⟩, fun g => absurd (t3.mp g) ho⟩⟩⟩, fun g => absurd g t2⟩⟩⟩
      · have rt : Ret m_su_supposeShut [vR 15 0 17, vI ((a - nI 1) / nI 2), vR 13 0 b, vR 14 0 11] (some (vI (nI 0))) c (MRc nb db by_ rs) mi ml mi ml := by
          refine g_su_supposeShut_0 hbb ⟨ixn t1 (by omega) (by decide), fun g => absurd ?_ hz, fun _ => ⟨rfl, rfl, rfl⟩⟩
          rw [cln t1 (by omega), bjm, lN_z, zL_eq ⟨by omega, by omega⟩ (by decide)] at g
          exact g
        exact ⟨mi, fun _ _ => rfl, Or.inr ⟨fun z => hz (by have := z.2.2.2.1 hq0 hev; rw [ej] at this; exact this), g_su_holds_0 hbb ⟨fun _ => ⟨fun g => absurd g c1, fun _ => ⟨fun g => absurd g c2, fun _ => ⟨fun _ => ⟨_, _, _, rt, fun _ => ⟨rfl, rfl, rfl⟩, fun g => absurd rfl g⟩, fun g => absurd (t3.mp g) ho⟩⟩⟩, fun g => absurd g t2⟩⟩⟩
end
