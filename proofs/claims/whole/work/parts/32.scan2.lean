/-! ===== a scan: the looks ===== -/
/-- a reading -/
def rdg (σ : SG) (i : Nat) : Int := rdS σ (plS σ i) + σ 3 i
theorem rdg_bd {σ : SG} (hW : WF σ) (i : Nat) : -99 ≤ rdg σ i ∧ rdg σ i ≤ 311067 := by
  have := rdS_bd hW (plS σ i)
  have := hW.no i
  unfold rdg; omega
def lkN (σ : SG) : Nat → Nat → Nat
  | 0, _ => 0
  | d + 1, j => if bt (loB σ) j = 1 then lkN σ d (j + 1) else if σ 0 8 < rdS σ (plS σ j) then 1 else lkN σ d (j + 1) + 1
def bdB (σ : SG) : Nat → Nat → Bool
  | 0, _ => false
  | d + 1, j => if bt (loB σ) j = 1 then bdB σ d (j + 1) else if σ 0 8 < rdS σ (plS σ j) then true else bdB σ d (j + 1)
theorem lkN_s {σ : SG} {n j : Nat} (h : j < n) : lkN σ (n - j) j = if bt (loB σ) j = 1 then lkN σ (n - (j + 1)) (j + 1) else if σ 0 8 < rdS σ (plS σ j) then 1 else lkN σ (n - (j + 1)) (j + 1) + 1 := by
  rw [stepd h]; rfl
theorem bdB_s {σ : SG} {n j : Nat} (h : j < n) : bdB σ (n - j) j = if bt (loB σ) j = 1 then bdB σ (n - (j + 1)) (j + 1) else if σ 0 8 < rdS σ (plS σ j) then true else bdB σ (n - (j + 1)) (j + 1) := by
  rw [stepd h]; rfl
theorem RCb.eq {σ : SG} {b : Nat} {mi m : MI} (h : RCb σ b mi) (e0 : m b = mi b) (e1 : m (b + 1) = mi (b + 1)) (e2 : m (b + 2) = mi (b + 2)) (e3 : m (b + 3) = mi (b + 3)) (e4 : m (b + 4) = mi (b + 4)) : RCb σ b m := by
  unfold RCb; rw [e0, e1, e2, e3, e4]; exact h
theorem RCb.fr {σ : SG} {b : Nat} {mi m : MI} (hbb : b = 43 ∨ b = 5) (h : RCb σ b mi) (e : ∀ a, (5 ≤ a ∧ a ≤ 9) ∨ (43 ≤ a ∧ a ≤ 47) → m a = mi a) : RCb σ b m :=
  h.eq (e _ (by omega)) (e _ (by omega)) (e _ (by omega)) (e _ (by omega)) (e _ (by omega))
section
variable {nb db b : Nat} {by_ rs : RX} {c : Nat} {σ : SG} {mi mj : MI} {ml mk : ML} {x j : Int32}
theorem SC_loop (hbb : b = 43 ∨ b = 5) (hW : WF σ) (hB : RCb σ b mi) {n : Nat} (hn : σ 0 5 = n) : ∀ j, j ≤ n → ∀ (i a : Int32) (A B0 B1 : Int) (m : MI), i = nI j → a = zI A → m 11 0 = zI B0 → m 11 1 = zI B1 → (∀ a, a ≠ 11 → a ≠ 14 → m a = mi a) →
    ∃ m' : MI, (∀ a, a ≠ 11 → a ≠ 14 → m' a = mi a) ∧ m' 11 0 = zI (B0 + lkN σ (n - j) j) ∧ (∀ k, 2 ≤ k → m' 11 k = m 11 k) ∧
    (bdB σ (n - j) j = true → m' 11 1 = zI (B1 + 1) ∧ Go m_sg_scanAll 9 [some (vR 14 0 11), some (vR 13 0 b), some (vI a), some (vI i), none] [] (some (vI (-(nI 1)))) c (MRc nb db by_ rs) m ml m' ml) ∧
    (bdB σ (n - j) j = false → m' 11 1 = zI B1 ∧ (∀ k, k < j → m' 14 k = m 14 k) ∧ (∀ k, j ≤ k → k < n → ¬ bt (loB σ) k = 1 → m' 14 k = zI (rdg σ k)) ∧ ∀ rv mi' ml', Go m_sg_scanAll 9 [some (vR 14 0 11), some (vR 13 0 b), some (vI (zI (A + lkN σ (n - j) j))), some (vI (nI n)), none] [] rv c (MRc nb db by_ rs) m' ml mi' ml' → Go m_sg_scanAll 9 [some (vR 14 0 11), some (vR 13 0 b), some (vI a), some (vI i), none] [] rv c (MRc nb db by_ rs) m ml mi' ml') := by
  have h31 : n ≤ 31 := by have := hW.nn; omega
  refine upto ?_ ?_
  · intro i a A B0 B1 m hi ha h0 h1 hm
    refine ⟨m, hm, ?_, fun _ _ => rfl, fun g => ?_, fun _ => ⟨h1, fun _ _ => rfl, fun k h1 h2 => by omega, fun rv mi' ml' G => ?_⟩⟩
    · rw [Nat.sub_self]; show _ = zI (B0 + 0); rw [Int.add_zero, h0]
    · rw [Nat.sub_self] at g; cases g
    · rw [Nat.sub_self] at G
      have e : zI (A + ((lkN σ 0 n : Nat) : Int)) = a := by show zI (A + 0) = a; rw [Int.add_zero, ha]
      rw [e, ← hi] at G
      exact G
  · intro j hj ih i a A B0 B1 m hi ha h0 h1 hm
    have hBm : RCb σ b m := hB.fr hbb (fun q hq => hm q (by omega) (by omega))
    have hc := hBm.n hn
    have el := lost_i hW (hBm.lo hW) hi (show j < 32 by omega)
    have hp : m (b + 1) i.toNatClampNeg = nI (plS σ j) := by rw [cln hi (by omega), hBm.pl (by omega)]; rfl
    have hrd := rdS_bd hW (plS σ j)
    rw [lkN_s hj, bdB_s hj]
    by_cases hl : bt (loB σ) j = 1
    · rw [if_pos hl, if_pos hl]
      obtain ⟨m', p1, p2, p3, p4, p5⟩ := ih (i + nI 1) a A B0 B1 m (inc hi) ha h0 h1 hm
      have st : ∀ rv mi' ml', Go m_sg_scanAll 9 [some (vR 14 0 11), some (vR 13 0 b), some (vI a), some (vI (i + nI 1)), none] [] rv c (MRc nb db by_ rs) m ml mi' ml' → Go m_sg_scanAll 9 [some (vR 14 0 11), some (vR 13 0 b), some (vI a), some (vI i), none] [] rv c (MRc nb db by_ rs) m ml mi' ml' := fun rv mi' ml' G =>
        g_sg_scanAll_9 hbb ⟨fun h => absurd h (lp_g hc hi hj (by omega)), fun _ => ⟨fun g => absurd (el.mpr hl) g, fun _ => G⟩⟩
      refine ⟨m', p1, p2, p3, fun g => ⟨(p4 g).1, st _ _ _ (p4 g).2⟩, fun g => ⟨(p5 g).1, fun k hk => (p5 g).2.1 k (by omega), fun k hk hkn hkl => (p5 g).2.2.1 k ?_ hkn hkl, fun rv mi' ml' G => st _ _ _ ((p5 g).2.2.2 _ _ _ G)⟩⟩
      rcases Nat.lt_or_ge j k with z | z
      · omega
      · rw [show k = j by omega] at hkl; exact absurd hl hkl
    · rw [if_neg hl, if_neg hl]
      by_cases hb : σ 0 8 < rdS σ (plS σ j)
      · rw [if_pos hb, if_pos hb]
        refine ⟨u2 (u2 m 11 0 (m 11 0 + nI 1)) 11 1 (m 11 1 + nI 1), fun q q1 q2 => ?_, ?_, fun k hk => ?_, fun _ => ⟨?_, ?_⟩, fun g => by cases g⟩
        · rw [u2_o _ _ q1, u2_o _ _ q1, hm q q1 q2]
        · rw [u2_ne2 _ _ (Or.inr (by decide)), u2_s, incA h0]; rfl
        · rw [u2_ne2 _ _ (Or.inr (by omega)), u2_ne2 _ _ (Or.inr (by omega))]
        · rw [u2_s, incA h1]
        · refine g_sg_scanAll_9 hbb ⟨fun h => absurd h (lp_g hc hi hj (by omega)), fun _ => ⟨fun g => ⟨ixn hi (by omega) (by decide), _, _, _, R_lookB hbb hW hBm (plS_lt hW j) hp hb, fun g => absurd g (by decide), fun _ => ⟨rfl, rfl, rfl⟩⟩, fun g => absurd (el.mp g) hl⟩⟩
      · rw [if_neg hb, if_neg hb]
        have hm1 : ∀ q, q ≠ 11 → q ≠ 14 → u2 (u2 m 11 0 (m 11 0 + nI 1)) 14 j (zI (rdg σ j)) q = mi q := fun q q1 q2 => by
          rw [u2_o _ _ q2, u2_o _ _ q1, hm q q1 q2]
        obtain ⟨m', p1, p2, p3, p4, p5⟩ := ih (i + nI 1) (a + nI 1) (A + 1) (B0 + 1) B1 (u2 (u2 m 11 0 (m 11 0 + nI 1)) 14 j (zI (rdg σ j))) (inc hi) (incA ha) (by rw [u2_o _ _ (by decide), u2_s, incA h0]) (by rw [u2_o _ _ (by decide), u2_ne2 _ _ (Or.inr (by decide)), h1]) hm1
        have st : ∀ rv mi' ml', Go m_sg_scanAll 9 [some (vR 14 0 11), some (vR 13 0 b), some (vI (a + nI 1)), some (vI (i + nI 1)), none] [] rv c (MRc nb db by_ rs) (u2 (u2 m 11 0 (m 11 0 + nI 1)) 14 j (zI (rdg σ j))) ml mi' ml' → Go m_sg_scanAll 9 [some (vR 14 0 11), some (vR 13 0 b), some (vI a), some (vI i), none] [] rv c (MRc nb db by_ rs) m ml mi' ml' := fun rv mi' ml' G => by
          refine g_sg_scanAll_9 hbb ⟨fun h => absurd h (lp_g hc hi hj (by omega)), fun _ => ⟨fun g => ⟨ixn hi (by omega) (by decide), _, _, _, R_lookAt hbb hW hBm (plS_lt hW j) hp (by omega), fun _ => ⟨ixn hi (by omega) (by decide), ixn hi (by omega) (by decide), ?_⟩, fun g => absurd ?_ g⟩, fun g => absurd (el.mp g) hl⟩⟩
          · have e : zI (rdS σ (plS σ j)) + (u2 m 11 0 (m 11 0 + nI 1)) (b + 3) i.toNatClampNeg = zI (rdg σ j) := by
              rw [u2_o _ _ (by omega), cln hi (by omega), hBm.no (by omega), zI_add]; rfl
            rw [e, cln hi (by omega)]
            exact G
          · rw [show (0 : Int32) = zI 0 from rfl, zI_le (by decide) ⟨by omega, by omega⟩]; omega
        have e1 : (B0 + 1 + (lkN σ (n - (j + 1)) (j + 1) : Nat) : Int) = B0 + ((lkN σ (n - (j + 1)) (j + 1) + 1 : Nat) : Int) := by omega
        have e2 : (A + 1 + (lkN σ (n - (j + 1)) (j + 1) : Nat) : Int) = A + ((lkN σ (n - (j + 1)) (j + 1) + 1 : Nat) : Int) := by omega
        rw [e1] at p2
        rw [e2] at p5
        refine ⟨m', p1, p2, fun k hk => ?_, fun g => ⟨(p4 g).1, st _ _ _ (p4 g).2⟩, fun g => ⟨(p5 g).1, fun k hk => ?_, fun k hk hkn hkl => ?_, fun rv mi' ml' G => st _ _ _ ((p5 g).2.2.2 _ _ _ G)⟩⟩
        · rw [p3 k hk, u2_o _ _ (by decide), u2_ne2 _ _ (Or.inr (by omega))]
        · rw [(p5 g).2.1 k (by omega), u2_ne2 _ _ (Or.inr (by omega)), u2_o _ _ (by decide)]
        · rcases Nat.lt_or_ge j k with z | z
          · exact (p5 g).2.2.1 k (by omega) hkn hkl
          · rw [show k = j by omega, (p5 g).2.1 j (by omega), u2_s]
theorem RMb.eq {m : MI} (h : RMb σ mj) (e : ∀ a, a = 49 ∨ a = 50 ∨ a = 51 ∨ a = 54 → m a = mj a) : RMb σ m := by
  unfold RMb; rw [e 49 (by omega), e 50 (by omega), e 51 (by omega), e 54 (by omega)]; exact h
theorem SR_loop (hW : WF σ) (hs : RMx σ mj) (hl0 : mj 54 62 = nI (loB σ)) (hB : RMb σ mj) {n : Nat} (hn : σ 0 5 = n) : ∀ j, j ≤ n → ∀ (i a : Int32) (A B0 B1 : Int) (m : MI), i = nI j → a = zI A → m 48 44 = zI B0 → m 48 45 = zI B1 → (∀ a, a ≠ 48 → a ≠ 60 → m a = mj a) → (∀ k, k ≠ 44 → k ≠ 45 → m 48 k = mj 48 k) →
    ∃ m' : MI, (∀ a, a ≠ 48 → a ≠ 60 → m' a = mj a) ∧ m' 48 44 = zI (B0 + lkN σ (n - j) j) ∧
    (bdB σ (n - j) j = true → m' 48 45 = zI (B1 + 1) ∧ m' 48 1 = nI 5 ∧ m' 48 2 = -(nI 1) ∧ (∀ k, k ≠ 44 → k ≠ 45 → k ≠ 1 → k ≠ 2 → m' 48 k = mj 48 k) ∧ Go m_r_scan 27 [some (vR 19 0 48), some (vI a), some (vI i), none] [] (some (vI (-(nI 1)))) c (MRc nb db by_ rs) m mk m' mk) ∧
    (bdB σ (n - j) j = false → m' 48 45 = zI B1 ∧ m' 48 1 = nI 0 ∧ m' 48 2 = -(nI 1) ∧ m' 48 46 = nI 1 ∧ (∀ k, k ≠ 44 → k ≠ 45 → k ≠ 1 → k ≠ 2 → k ≠ 46 → m' 48 k = mj 48 k) ∧ (∀ k, k < j → m' 60 k = m 60 k) ∧ (∀ k, j ≤ k → k < n → ¬ bt (loB σ) k = 1 → m' 60 k = zI (rdg σ k)) ∧ Go m_r_scan 27 [some (vR 19 0 48), some (vI a), some (vI i), none] [] (some (vI (zI (A + lkN σ (n - j) j)))) c (MRc nb db by_ rs) m mk m' mk) := by
  have h31 : n ≤ 31 := by have := hW.nn; omega
  refine upto ?_ ?_
  · intro i a A B0 B1 m hi ha h0 h1 hm hf
    have hc : m 48 5 = nI n := by rw [hf 5 (by decide) (by decide), hs.1, hn]; rfl
    refine ⟨u2 (u2 (u2 m 48 46 (nI 1)) 48 1 (nI 0)) 48 2 (-(nI 1)), fun q q1 q2 => ?_, ?_, fun g => ?_, fun _ => ⟨?_, ?_, u2_s _ _ _ _, ?_, fun k k1 k2 k3 k4 k5 => ?_, fun k _ => ?_, fun k h1 h2 => by omega, g_r_scan_27 ⟨fun _ => ⟨?_, rfl, rfl⟩, fun h => absurd (lp_d hc hi) h⟩⟩⟩
    · rw [u2_o _ _ q1, u2_o _ _ q1, u2_o _ _ q1, hm q q1 q2]
    · rw [u2_ne2 _ _ (Or.inr (by decide)), u2_ne2 _ _ (Or.inr (by decide)), u2_ne2 _ _ (Or.inr (by decide)), Nat.sub_self]; show _ = zI (B0 + 0); rw [Int.add_zero, h0]
    · rw [Nat.sub_self] at g; cases g
    · rw [u2_ne2 _ _ (Or.inr (by decide)), u2_ne2 _ _ (Or.inr (by decide)), u2_ne2 _ _ (Or.inr (by decide)), h1]
    · rw [u2_ne2 _ _ (Or.inr (by decide)), u2_s]
    · rw [u2_ne2 _ _ (Or.inr (by decide)), u2_ne2 _ _ (Or.inr (by decide)), u2_s]
    · rw [u2_ne2 _ _ (Or.inr k4), u2_ne2 _ _ (Or.inr k3), u2_ne2 _ _ (Or.inr k5), hf k k1 k2]
    · rw [u2_o _ _ (by decide), u2_o _ _ (by decide), u2_o _ _ (by decide)]
    · rw [Nat.sub_self]; show some (vI (zI (A + 0))) = _; rw [Int.add_zero, ha]
  · intro j hj ih i a A B0 B1 m hi ha h0 h1 hm hf
    have hc : m 48 5 = nI n := by rw [hf 5 (by decide) (by decide), hs.1, hn]; rfl
    have hBm : RMb σ m := hB.eq (fun q hq => hm q (by omega) (by omega))
    have hsm : RMx σ m := ⟨by rw [hf 5 (by decide) (by decide), hs.1], by rw [hf 7 (by decide) (by decide), hs.2.1], by rw [hf 8 (by decide) (by decide), hs.2.2]⟩
    have hlm : m 54 62 = nI (loB σ) := by rw [hm 54 (by decide) (by decide), hl0]
    have hp : m 49 i.toNatClampNeg = nI (plS σ j) := by rw [cln hi (by omega), hBm.1 j (by omega)]; rfl
    have hrd := rdS_bd hW (plS σ j)
    rw [lkN_s hj, bdB_s hj]
    by_cases hl : bt (loB σ) j = 1
    · rw [if_pos hl, if_pos hl]
      obtain ⟨m', p1, p2, p4, p5⟩ := ih (i + nI 1) a A B0 B1 m (inc hi) ha h0 h1 hm hf
      have st : ∀ rv mi' ml', Go m_r_scan 27 [some (vR 19 0 48), some (vI a), some (vI (i + nI 1)), none] [] rv c (MRc nb db by_ rs) m mk mi' ml' → Go m_r_scan 27 [some (vR 19 0 48), some (vI a), some (vI i), none] [] rv c (MRc nb db by_ rs) m mk mi' ml' := fun rv mi' ml' G =>
        g_r_scan_27 ⟨fun h => absurd h (lp_g hc hi hj (by omega)), fun _ => ⟨_, R_has hlm hi (lo_lt hW) (by omega), fun g => absurd hl (bt_r.mp g), fun _ => G⟩⟩
      refine ⟨m', p1, p2, fun g => ?_, fun g => ?_⟩
      · obtain ⟨q1, q2, q3, q4, q5⟩ := p4 g
        exact ⟨q1, q2, q3, q4, st _ _ _ q5⟩
      · obtain ⟨q1, q2, q3, q4, q5, q6, q7, q8⟩ := p5 g
        refine ⟨q1, q2, q3, q4, q5, fun k hk => q6 k (by omega), fun k hk hkn hkl => q7 k ?_ hkn hkl, st _ _ _ q8⟩
        rcases Nat.lt_or_ge j k with z | z
        · omega
        · rw [show k = j by omega] at hkl; exact absurd hl hkl
    · rw [if_neg hl, if_neg hl]
      by_cases hb : σ 0 8 < rdS σ (plS σ j)
      · rw [if_pos hb, if_pos hb]
        refine ⟨u2 (u2 (u2 (u2 m 48 44 (m 48 44 + nI 1)) 48 45 (m 48 45 + nI 1)) 48 1 (nI 5)) 48 2 (-(nI 1)), fun q q1 q2 => ?_, ?_, fun _ => ⟨?_, ?_, u2_s _ _ _ _, fun k k1 k2 k3 k4 => ?_, ?_⟩, fun g => by cases g⟩
        · rw [u2_o _ _ q1, u2_o _ _ q1, u2_o _ _ q1, u2_o _ _ q1, hm q q1 q2]
        · rw [u2_ne2 _ _ (Or.inr (by decide)), u2_ne2 _ _ (Or.inr (by decide)), u2_ne2 _ _ (Or.inr (by decide)), u2_s, incA h0]; rfl
        · rw [u2_ne2 _ _ (Or.inr (by decide)), u2_ne2 _ _ (Or.inr (by decide)), u2_s, incA h1]
        · rw [u2_ne2 _ _ (Or.inr (by decide)), u2_s]
        · rw [u2_ne2 _ _ (Or.inr k4), u2_ne2 _ _ (Or.inr k3), u2_ne2 _ _ (Or.inr k2), u2_ne2 _ _ (Or.inr k1), hf k k1 k2]
        · exact g_r_scan_27 ⟨fun h => absurd h (lp_g hc hi hj (by omega)), fun _ => ⟨_, R_has hlm hi (lo_lt hW) (by omega), fun g => ⟨ixn hi (by omega) (by decide), _, _, _, R_looksB hW hsm hBm (plS_lt hW j) hp hb, fun g => absurd rfl g, fun _ => ⟨rfl, rfl, rfl⟩⟩, fun g => absurd (bt_r.mpr hl) g⟩⟩
      · rw [if_neg hb, if_neg hb]
        have hm1 : ∀ q, q ≠ 48 → q ≠ 60 → u2 (u2 m 48 44 (m 48 44 + nI 1)) 60 j (zI (rdg σ j)) q = mj q := fun q q1 q2 => by
          rw [u2_o _ _ q2, u2_o _ _ q1, hm q q1 q2]
        have hf1 : ∀ k, k ≠ 44 → k ≠ 45 → u2 (u2 m 48 44 (m 48 44 + nI 1)) 60 j (zI (rdg σ j)) 48 k = mj 48 k := fun k k1 k2 => by
          rw [u2_o _ _ (by decide), u2_ne2 _ _ (Or.inr k1), hf k k1 k2]
        obtain ⟨m', p1, p2, p4, p5⟩ := ih (i + nI 1) (a + nI 1) (A + 1) (B0 + 1) B1 (u2 (u2 m 48 44 (m 48 44 + nI 1)) 60 j (zI (rdg σ j))) (inc hi) (incA ha) (by rw [u2_o _ _ (by decide), u2_s, incA h0]) (by rw [u2_o _ _ (by decide), u2_ne2 _ _ (Or.inr (by decide)), h1]) hm1 hf1
        have st : ∀ rv mi' ml', Go m_r_scan 27 [some (vR 19 0 48), some (vI (a + nI 1)), some (vI (i + nI 1)), none] [] rv c (MRc nb db by_ rs) (u2 (u2 m 48 44 (m 48 44 + nI 1)) 60 j (zI (rdg σ j))) mk mi' ml' → Go m_r_scan 27 [some (vR 19 0 48), some (vI a), some (vI i), none] [] rv c (MRc nb db by_ rs) m mk mi' ml' := fun rv mi' ml' G => by
          refine g_r_scan_27 ⟨fun h => absurd h (lp_g hc hi hj (by omega)), fun _ => ⟨_, R_has hlm hi (lo_lt hW) (by omega), fun g => ⟨ixn hi (by omega) (by decide), _, _, _, R_looks hW hsm hBm (plS_lt hW j) hp (by omega), fun _ => ⟨ixn hi (by omega) (by decide), ixn hi (by omega) (by decide), ?_⟩, fun g => absurd g ?_⟩, fun g => absurd (bt_r.mpr hl) g⟩⟩
          · have e : zI (rdS σ (plS σ j)) + (u2 m 48 44 (m 48 44 + nI 1)) 50 i.toNatClampNeg = zI (rdg σ j) := by
              rw [u2_o _ _ (by decide), cln hi (by omega), hBm.2.2.2.1 j (by omega), zI_add]; rfl
            rw [e, cln hi (by omega)]
            exact G
          · rw [show -(nI 1) = zI (-1) from rfl, zI_eq ⟨by omega, by omega⟩ (by decide)]; omega
        have e1 : (B0 + 1 + (lkN σ (n - (j + 1)) (j + 1) : Nat) : Int) = B0 + ((lkN σ (n - (j + 1)) (j + 1) + 1 : Nat) : Int) := by omega
        have e2 : (A + 1 + (lkN σ (n - (j + 1)) (j + 1) : Nat) : Int) = A + ((lkN σ (n - (j + 1)) (j + 1) + 1 : Nat) : Int) := by omega
        rw [e1] at p2
        rw [e2] at p5
        refine ⟨m', p1, p2, fun g => ?_, fun g => ?_⟩
        · obtain ⟨q1, q2, q3, q4, q5⟩ := p4 g
          exact ⟨q1, q2, q3, q4, st _ _ _ q5⟩
        · obtain ⟨q1, q2, q3, q4, q5, q6, q7, q8⟩ := p5 g
          refine ⟨q1, q2, q3, q4, q5, fun k hk => ?_, fun k hk hkn hkl => ?_, st _ _ _ q8⟩
          · rw [q6 k (by omega), u2_ne2 _ _ (Or.inr (by omega)), u2_o _ _ (by decide)]
          · rcases Nat.lt_or_ge j k with z | z
            · exact q7 k (by omega) hkn hkl
            · rw [show k = j by omega, q6 j (by omega), u2_s]
end
