/-! ===== feed ===== -/
def byN (x : Int32) (s : Nat) : Nat := x.toBitVec.toNat / 2 ^ s % 256
theorem byN_lt (x : Int32) (s : Nat) : byN x s < 256 := Nat.mod_lt _ (by decide)
theorem by_c (x : Int32) {s : Nat} (hs : s < 32) : usr x (nI s) &&& nI 255 = nI (byN x s) := by
  rw [pk_and (usr x (nI s)) 8 (by decide)]
  unfold usr
  rw [pk_ushr x (nI s) s (jus_am s hs)]
  rfl
theorem by_r (x : Int32) {s : Nat} (hs : s = 24 ∨ s = 16 ∨ s = 8 ∨ s = 0) : (x >>> (nI s &&& 31)).toInt8 = (nI (byN x s)).toInt8 := by
  apply Int8.toInt_inj.mp
  have hb := byN_lt x s
  rw [Int32.toInt_toInt8, Int32.toInt_toInt8, pk_shr _ _ s (sh_am s (by omega)), nI_toInt (by omega), Int.shiftRight_eq_div_pow]
  have e : x.toInt = Int.bmod (x.toBitVec.toNat : Int) (2 ^ 32) := BitVec.toInt_eq_toNat_bmod x.toBitVec
  have hl : x.toBitVec.toNat < 2 ^ 32 := x.toBitVec.isLt
  unfold byN
  generalize x.toBitVec.toNat = m at e hl
  rw [Int.bmod_def] at e
  rw [e]
  simp only [Int.bmod_def]
  have e2 : ((m : Int) % ((2 ^ 32 : Nat) : Int)) = m := by omega
  rw [e2]
  rcases hs with rfl | rfl | rfl | rfl
  · split <;> simp <;> omega
  · split <;> simp <;> omega
  · split <;> simp <;> omega
  · split <;> simp <;> omega
def fdA (a0 a1 a2 a3 a4 : Int32) (t : Nat) : Int32 := if t < 4 then a0 else if t < 8 then a1 else if t < 12 then a2 else if t < 16 then a3 else a4
def fdB (a0 a1 a2 a3 a4 : Int32) (t : Nat) : Nat := byN (fdA a0 a1 a2 a3 a4 t) (24 - 8 * (t % 4))
theorem mz24 {q : Nat} (h : q ≤ 3) : zI (24 - 8 * (q : Int)) = nI (24 - 8 * q) := by
  rw [nI_z]; congr 1; omega
section
variable {nb db b : Nat} {by_ rs : RX} {c : Nat} {σ τ : SG} {mi mi' mj mj' : MI} {ml ml' mk : ML} {x : Int32}
theorem PT_loop {T : Nat} (hT : T + 4 ≤ 800) : ∀ q : Nat, q ≤ 4 → ∀ (i : Int32) (m : MI), i = zI (24 - 8 * (q : Int)) → m 2 1 = nI (T + q) → ∃ m', Go m_tp_put 3 [some (vR 11 0 2), some (vI x), some (vI i)] [] none c (MRc nb db by_ rs) m ml m' ml ∧ m' 2 1 = nI (T + 4) ∧ (∀ k, k ≠ 1 → m' 2 k = m 2 k) ∧ (∀ k, m' 3 k = if T + q ≤ k ∧ k < T + 4 then nI (byN x (24 - 8 * (k - T))) else m 3 k) ∧ ∀ a, a ≠ 2 → a ≠ 3 → m' a = m a := by
  refine upto ?_ ?_
  · intro i m hi hm
    refine ⟨m, g_tp_put_3 ⟨fun _ => ⟨rfl, rfl, rfl⟩, fun g => absurd ?_ g⟩, hm, fun _ _ => rfl, fun k => ?_, fun _ _ _ => rfl⟩
    · rw [hi]; decide
    · rw [if_neg (show ¬ (T + 4 ≤ k ∧ k < T + 4) by omega)]
  · intro q hq ih i m hi hm
    have ei : i = nI (24 - 8 * q) := by rw [hi, mz24 (by omega)]
    obtain ⟨m', p1, p2, p3, p4, p5⟩ := ih (i + -(nI 8)) (u2 (u2 m 3 (T + q) (nI (byN x (24 - 8 * q)))) 2 1 (m 2 1 + nI 1)) (by
        rw [hi, show -(nI 8) = zI (-8) from rfl, zI_add]; congr 1; omega) (by rw [u2_s, hm, nI_add, Nat.add_assoc])
    refine ⟨m', g_tp_put_3 ⟨fun g => absurd g ?_, fun _ => ⟨fun g => absurd g ?_, fun _ => ⟨ixn hm (by omega) (by decide), ?_⟩⟩⟩, p2, fun k hk => ?_, fun k => ?_, fun a a1 a2 => ?_⟩
    · rw [ei]
      exact fun g => absurd ((nI_ltI (by omega) (by decide)).mp (show nI (24 - 8 * q) < nI 0 from g)) (by omega)
    · rw [hm, nI_leN (by decide) (by omega)]; omega
    · rw [cln hm (by omega), ei, by_c x (show 24 - 8 * q < 32 by omega), ← ei]
      exact p1
    · rw [p3 k hk, u2_ne2 _ _ (Or.inr hk), u2_o _ _ (by decide)]
    · rw [p4 k]
      by_cases e : T + (q + 1) ≤ k ∧ k < T + 4
      · rw [if_pos e, if_pos (show T + q ≤ k ∧ k < T + 4 by omega)]
      · rw [if_neg e, u2_o _ _ (by decide), u2_if]
        by_cases e2 : k = T + q
        · rw [if_pos ⟨rfl, e2⟩, if_pos (show T + q ≤ k ∧ k < T + 4 by omega), show k - T = q by omega]
        · rw [if_neg (fun y : 3 = 3 ∧ k = T + q => e2 y.2), if_neg (show ¬ (T + q ≤ k ∧ k < T + 4) by omega)]
    · rw [p5 a a1 a2, u2_o _ _ a1, u2_o _ _ a2]
theorem R_put {T : Nat} (hT : T + 4 ≤ 800) (hm : mi 2 1 = nI T) : ∃ m', Ret m_tp_put [vR 11 0 2, vI x] none c (MRc nb db by_ rs) mi ml m' ml ∧ m' 2 1 = nI (T + 4) ∧ (∀ k, k ≠ 1 → m' 2 k = mi 2 k) ∧ (∀ k, m' 3 k = if T ≤ k ∧ k < T + 4 then nI (byN x (24 - 8 * (k - T))) else mi 3 k) ∧ ∀ a, a ≠ 2 → a ≠ 3 → m' a = mi a := by
  obtain ⟨m', p1, p2⟩ := PT_loop (nb := nb) (db := db) (by_ := by_) (rs := rs) (c := c) (ml := ml) (x := x) hT 0 (by omega) (nI 24) mi rfl hm
  exact ⟨m', g_tp_put_0 p1, p2⟩
theorem FD_loop {T : Nat} (hT : T + 20 ≤ 800) (a0 a1 a2 a3 a4 : Int32) : ∀ q, q ≤ 20 → ∀ (i : Int32) (m : MI), i = nI q → m 48 32 = nI (T + q) → ∃ m', Go m_r_feed 23 [some (vR 19 0 48), some (vI a0), some (vI a1), some (vI a2), some (vI a3), some (vI a4), some (vI i), none] [] (some (vI (nI (T + 20)))) c (MRc nb db by_ rs) m mk m' mk ∧ m' 48 32 = nI (T + 20) ∧ (∀ k, k ≠ 32 → m' 48 k = m 48 k) ∧ (∀ k, m' 57 k = if T + q ≤ k ∧ k < T + 20 then (nI (fdB a0 a1 a2 a3 a4 (k - T))).toInt8.toInt32 else m 57 k) ∧ ∀ a, a ≠ 48 → a ≠ 57 → m' a = m a := by
  refine upto ?_ ?_
  · intro i m hi hm
    refine ⟨m, g_r_feed_23 ⟨fun _ => ⟨by rw [hm], rfl, rfl⟩, fun g => absurd (by rw [hi]; exact Int32.le_refl _) g⟩, hm, fun _ _ => rfl, fun k => ?_, fun _ _ _ => rfl⟩
    rw [if_neg (show ¬ (T + 20 ≤ k ∧ k < T + 20) by omega)]
  · intro q hq ih i m hi hm
    have es : nI 24 - nI 8 * rmI i (nI 4) = nI (24 - 8 * (q % 4)) := by
      unfold rmI
      rw [hi, pk_rem (by omega) (by decide) (by decide), pk_mul, nI_sub (by omega)]
    have hs : 24 - 8 * (q % 4) = 24 ∨ 24 - 8 * (q % 4) = 16 ∨ 24 - 8 * (q % 4) = 8 ∨ 24 - 8 * (q % 4) = 0 := by omega
    have ev : ∀ l, l = fdA a0 a1 a2 a3 a4 q → vp_nar .byte ((l >>> ((nI 24 - nI 8 * rmI i (nI 4)) &&& 31)).toInt8.toInt32) = (nI (fdB a0 a1 a2 a3 a4 q)).toInt8.toInt32 := by
      intro l hl
      rw [pk_vb, es, by_r l hs, hl]; rfl
    obtain ⟨m', p1, p2, p3, p4, p5⟩ := ih (i + nI 1) (u2 (u2 m 57 (T + q) ((nI (fdB a0 a1 a2 a3 a4 q)).toInt8.toInt32)) 48 32 (m 48 32 + nI 1)) (inc hi) (by rw [u2_s, hm, nI_add, Nat.add_assoc])
    have ix : vp_in (m 48 32) 800 := ixn hm (by omega) (by decide)
    have hc : (m 48 32).toNatClampNeg = T + q := cln hm (by omega)
    have le : ∀ z, z < 2 ^ 31 → (nI z ≤ i ↔ z ≤ q) := fun z hz => by rw [hi]; exact nI_leN hz (by omega)
    refine ⟨m', g_r_feed_23 ⟨fun g => absurd ((le 20 (by decide)).mp g) (by omega), fun _ => ⟨fun g4 => ⟨fun g8 => ⟨fun g12 => ⟨fun g16 => ⟨ix, ?_⟩, fun g16 => ⟨ix, ?_⟩⟩, fun g12 => ⟨ix, ?_⟩⟩, fun g8 => ⟨ix, ?_⟩⟩, fun g4 => ⟨ix, ?_⟩⟩⟩, p2, fun k hk => ?_, fun k => ?_, fun a b1 b2 => ?_⟩
    · rw [le _ (by decide)] at g4 g8 g12 g16
      rw [hc, ev a4 (by unfold fdA; rw [if_neg (show ¬ q < 4 by omega), if_neg (show ¬ q < 8 by omega), if_neg (show ¬ q < 12 by omega), if_neg (show ¬ q < 16 by omega)])]; exact p1
    · rw [le _ (by decide)] at g4 g8 g12 g16
      rw [hc, ev a3 (by unfold fdA; rw [if_neg (show ¬ q < 4 by omega), if_neg (show ¬ q < 8 by omega), if_neg (show ¬ q < 12 by omega), if_pos (show q < 16 by omega)])]; exact p1
    · rw [le _ (by decide)] at g4 g8 g12
      rw [hc, ev a2 (by unfold fdA; rw [if_neg (show ¬ q < 4 by omega), if_neg (show ¬ q < 8 by omega), if_pos (show q < 12 by omega)])]; exact p1
    · rw [le _ (by decide)] at g4 g8
      rw [hc, ev a1 (by unfold fdA; rw [if_neg (show ¬ q < 4 by omega), if_pos (show q < 8 by omega)])]; exact p1
    · rw [le _ (by decide)] at g4
      rw [hc, ev a0 (by unfold fdA; rw [if_pos (show q < 4 by omega)])]; exact p1
    · rw [p3 k hk, u2_ne2 _ _ (Or.inr hk), u2_o _ _ (by decide)]
    · rw [p4 k]
      by_cases e : T + (q + 1) ≤ k ∧ k < T + 20
      · rw [if_pos e, if_pos (show T + q ≤ k ∧ k < T + 20 by omega)]
      · rw [if_neg e, u2_o _ _ (by decide), u2_if]
        by_cases e2 : k = T + q
        · rw [if_pos ⟨rfl, e2⟩, if_pos (show T + q ≤ k ∧ k < T + 20 by omega), show k - T = q by omega]
        · rw [if_neg (fun y : 57 = 57 ∧ k = T + q => e2 y.2), if_neg (show ¬ (T + q ≤ k ∧ k < T + 20) by omega)]
    · rw [p5 a b1 b2, u2_o _ _ b1, u2_o _ _ b2]
def fdS (σ : SG) (T : Nat) (f : Nat → Nat) : SG := fun a => if a = 0 then (fun k => if k = 4 then ((T + 20 : Nat) : Int) else σ 0 k) else if a = 8 then (fun k => if T ≤ k ∧ k < T + 20 then (f (k - T) : Int) else σ 8 k) else σ a
theorem V_feed {a0 a1 a2 a3 a4 : Int32} (hb : nb = 43 ∧ db = 5 ∨ nb = 5 ∧ db = 43) (F : FC σ nb mi ml) (R : FR σ mj) : Adv m_w_feed m_r_feed [vI a0, vI a1, vI a2, vI a3, vI a4] nb db by_ rs σ mi ml mj mk := by
  have hW := F.1.1
  have htl := hW.tl
  obtain ⟨T, hT⟩ : ∃ T : Nat, σ 0 4 = T := ⟨(σ 0 4).toNat, by omega⟩
  have c1 : mi 2 1 = nI T := by rw [F.1.2.1.2.2.2.2.1, hT]; rfl
  have r1 : mj 48 32 = nI T := by rw [R.1.2.1.2.2.2.2.2.2.1, hT]; rfl
  have c2 : (nI 800 < mi 2 1 + nI 20) ↔ 800 < T + 20 := by rw [c1, nI_add, nI_ltI (by decide) (by omega)]
  have r2 : (mj 48 32 + nI 20 ≤ nI 800) ↔ T + 20 ≤ 800 := by rw [r1, nI_add, nI_leN (by omega) (by decide)]
  intro c
  by_cases h : T + 20 ≤ 800
  · obtain ⟨m1, p1, p2, p3, p4, p5⟩ := R_put (nb := nb) (db := db) (by_ := by_) (rs := rs) (c := c) (ml := ml) (x := a0) (show T + 4 ≤ 800 by omega) c1
    obtain ⟨m2, q1, q2, q3, q4, q5⟩ := R_put (nb := nb) (db := db) (by_ := by_) (rs := rs) (c := c) (ml := ml) (x := a1) (show T + 4 + 4 ≤ 800 by omega) p2
    obtain ⟨m3, s1, s2, s3, s4, s5⟩ := R_put (nb := nb) (db := db) (by_ := by_) (rs := rs) (c := c) (ml := ml) (x := a2) (show T + 4 + 4 + 4 ≤ 800 by omega) q2
    obtain ⟨m4, t1, t2, t3, t4, t5⟩ := R_put (nb := nb) (db := db) (by_ := by_) (rs := rs) (c := c) (ml := ml) (x := a3) (show T + 4 + 4 + 4 + 4 ≤ 800 by omega) s2
    obtain ⟨m5, v1, v2, v3, v4, v5⟩ := R_put (nb := nb) (db := db) (by_ := by_) (rs := rs) (c := c) (ml := ml) (x := a4) (show T + 4 + 4 + 4 + 4 + 4 ≤ 800 by omega) t2
    obtain ⟨N, w1, w2, w3, w4, w5⟩ := FD_loop (nb := nb) (db := db) (by_ := by_) (rs := rs) (c := c) (mk := mk) h a0 a1 a2 a3 a4 0 (by omega) (nI 0) (u2 mj 48 0 (nI 0)) rfl r1
    have e5 : m5 2 1 = nI (T + 20) := by rw [v2, show T + 4 + 4 + 4 + 4 + 4 = T + 20 by omega]
    have m5o : ∀ a, a ≠ 2 → a ≠ 3 → m5 a = mi a := fun a h1 h2 => by rw [v5 a h1 h2, t5 a h1 h2, s5 a h1 h2, q5 a h1 h2, p5 a h1 h2]
    have m53 : ∀ k, m5 3 k = if T ≤ k ∧ k < T + 20 then nI (fdB a0 a1 a2 a3 a4 (k - T)) else mi 3 k := by
      intro k
      rw [v4 k, t4 k, s4 k, q4 k, p4 k]
      unfold fdB fdA
      by_cases h0 : k < T
      · rw [if_neg (show ¬ (T + 4 + 4 + 4 + 4 ≤ k ∧ k < T + 4 + 4 + 4 + 4 + 4) by omega), if_neg (show ¬ (T + 4 + 4 + 4 ≤ k ∧ k < T + 4 + 4 + 4 + 4) by omega), if_neg (show ¬ (T + 4 + 4 ≤ k ∧ k < T + 4 + 4 + 4) by omega), if_neg (show ¬ (T + 4 ≤ k ∧ k < T + 4 + 4) by omega), if_neg (show ¬ (T ≤ k ∧ k < T + 4) by omega), if_neg (show ¬ (T ≤ k ∧ k < T + 20) by omega)]
      · by_cases h1 : k < T + 4
        · rw [if_neg (show ¬ (T + 4 + 4 + 4 + 4 ≤ k ∧ k < T + 4 + 4 + 4 + 4 + 4) by omega), if_neg (show ¬ (T + 4 + 4 + 4 ≤ k ∧ k < T + 4 + 4 + 4 + 4) by omega), if_neg (show ¬ (T + 4 + 4 ≤ k ∧ k < T + 4 + 4 + 4) by omega), if_neg (show ¬ (T + 4 ≤ k ∧ k < T + 4 + 4) by omega), if_pos (show (T ≤ k ∧ k < T + 4) by omega), if_pos (show (T ≤ k ∧ k < T + 20) by omega), if_pos (show k - T < 4 by omega), show (k - T) % 4 = k - T by omega]
        · by_cases h2 : k < T + 8
          · rw [if_neg (show ¬ (T + 4 + 4 + 4 + 4 ≤ k ∧ k < T + 4 + 4 + 4 + 4 + 4) by omega), if_neg (show ¬ (T + 4 + 4 + 4 ≤ k ∧ k < T + 4 + 4 + 4 + 4) by omega), if_neg (show ¬ (T + 4 + 4 ≤ k ∧ k < T + 4 + 4 + 4) by omega), if_pos (show (T + 4 ≤ k ∧ k < T + 4 + 4) by omega), if_pos (show (T ≤ k ∧ k < T + 20) by omega), if_neg (show ¬ k - T < 4 by omega), if_pos (show k - T < 8 by omega), show (k - T) % 4 = k - (T + 4) by omega]
          · by_cases h3 : k < T + 12
            · rw [if_neg (show ¬ (T + 4 + 4 + 4 + 4 ≤ k ∧ k < T + 4 + 4 + 4 + 4 + 4) by omega), if_neg (show ¬ (T + 4 + 4 + 4 ≤ k ∧ k < T + 4 + 4 + 4 + 4) by omega), if_pos (show (T + 4 + 4 ≤ k ∧ k < T + 4 + 4 + 4) by omega), if_pos (show (T ≤ k ∧ k < T + 20) by omega), if_neg (show ¬ k - T < 4 by omega), if_neg (show ¬ k - T < 8 by omega), if_pos (show k - T < 12 by omega), show (k - T) % 4 = k - (T + 4 + 4) by omega]
            · by_cases h4 : k < T + 16
              · rw [if_neg (show ¬ (T + 4 + 4 + 4 + 4 ≤ k ∧ k < T + 4 + 4 + 4 + 4 + 4) by omega), if_pos (show (T + 4 + 4 + 4 ≤ k ∧ k < T + 4 + 4 + 4 + 4) by omega), if_pos (show (T ≤ k ∧ k < T + 20) by omega), if_neg (show ¬ k - T < 4 by omega), if_neg (show ¬ k - T < 8 by omega), if_neg (show ¬ k - T < 12 by omega), if_pos (show k - T < 16 by omega), show (k - T) % 4 = k - (T + 4 + 4 + 4) by omega]
              · by_cases h5 : k < T + 20
                · rw [if_pos (show (T + 4 + 4 + 4 + 4 ≤ k ∧ k < T + 4 + 4 + 4 + 4 + 4) by omega), if_pos (show (T ≤ k ∧ k < T + 20) by omega), if_neg (show ¬ k - T < 4 by omega), if_neg (show ¬ k - T < 8 by omega), if_neg (show ¬ k - T < 12 by omega), if_neg (show ¬ k - T < 16 by omega), show (k - T) % 4 = k - (T + 4 + 4 + 4 + 4) by omega]
                · rw [if_neg (show ¬ (T + 4 + 4 + 4 + 4 ≤ k ∧ k < T + 4 + 4 + 4 + 4 + 4) by omega), if_neg (show ¬ (T + 4 + 4 + 4 ≤ k ∧ k < T + 4 + 4 + 4 + 4) by omega), if_neg (show ¬ (T + 4 + 4 ≤ k ∧ k < T + 4 + 4 + 4) by omega), if_neg (show ¬ (T + 4 ≤ k ∧ k < T + 4 + 4) by omega), if_neg (show ¬ (T ≤ k ∧ k < T + 4) by omega), if_neg (show ¬ (T ≤ k ∧ k < T + 20) by omega)]
    have e8 : ∀ k, fdS σ T (fdB a0 a1 a2 a3 a4) 8 k = if T ≤ k ∧ k < T + 20 then (fdB a0 a1 a2 a3 a4 (k - T) : Int) else σ 8 k := fun _ => rfl
    have e4 : fdS σ T (fdB a0 a1 a2 a3 a4) 0 4 = ((T + 20 : Nat) : Int) := rfl
    have hW' : WF (fdS σ T (fdB a0 a1 a2 a3 a4)) := by
      obtain ⟨b1, b2, b3, b4, b5, b6, b7, b8, b9, b10, b11, b12, b13, b14⟩ := hW
      refine ⟨b1, b2, b3, b4, b5, b6, b7, ⟨?_, ?_⟩, b9, b10, b11, b12, b13, fun k => ?_⟩
      · rw [e4]; omega
      · rw [e4]; omega
      · rw [e8]
        by_cases e : T ≤ k ∧ k < T + 20
        · rw [if_pos e]
          have := byN_lt (fdA a0 a1 a2 a3 a4 (k - T)) (24 - 8 * ((k - T) % 4))
          unfold fdB
          omega
        · rw [if_neg e]; exact b14 k
    refine ⟨vI (nI (T + 20)), fdS σ T (fdB a0 a1 a2 a3 a4), m5, ml, N, mk, g_w_feed_0 ⟨fun g => absurd (c2.mp g) (by omega), fun _ => ⟨_, _, p1, _, _, q1, _, _, s1, _, _, t1, _, _, v1, by rw [e5], rfl, rfl⟩⟩, g_r_feed_0 ⟨fun _ => w1, fun g => absurd (r2.mpr h) g⟩, ?_, ?_, ⟨rfl, rfl, rfl, rfl, rfl⟩, fun a h1 h2 => m5o a (by omega) (by omega), fun a h1 => m5o a (by omega) (by omega), fun _ _ => rfl, fun a h1 => by rw [w5 a (by omega) (by omega), u2_o _ _ (by omega)], fun _ _ => rfl, rfl⟩
    · obtain ⟨⟨-, ⟨a1', a2', a3', a4', a5', a6', a7', a8', a9', a10', a11'⟩, hB⟩, hL, hl, hN, hA, hR⟩ := F
      have o := fun a h1 h2 => m5o a h1 h2
      refine ⟨⟨hW', ⟨?_, ?_, ?_, fun e => ?_, e5, fun k hk => ?_, ?_, ?_, ?_, ?_, ?_⟩, fun hr => ?_⟩, fun i hi => hL i hi, fun i hi => ?_, fun h12 => ?_, fun i hi => hA i hi, fun i hi => ?_⟩
      · rw [o 1 (by decide) (by decide), a1']; rfl
      · rw [o 1 (by decide) (by decide), a2']; rfl
      · rw [o 1 (by decide) (by decide), a3']; rfl
      · rw [o 1 (by decide) (by decide)]; exact a4' e
      · rw [m53 k, e8]
        have hk' : (k : Int) < ((T + 20 : Nat) : Int) := hk
        by_cases e : T ≤ k ∧ k < T + 20
        · rw [if_pos e, if_pos e]; rfl
        · rw [if_neg e, if_neg e]; exact a6' k (by omega)
      · rw [o 11 (by decide) (by decide), a7']; rfl
      · rw [o 11 (by decide) (by decide), a8']; rfl
      · rw [o 11 (by decide) (by decide), a9']; rfl
      · rw [o 11 (by decide) (by decide), a10']; rfl
      · rw [o 39 (by decide) (by decide), a11']; rfl
      · have hB0 : RCb σ nb m5 := (hB hr).fr (hbb_of hb) (fun q hq => m5o q (by omega) (by omega))
        exact hB0
      · rw [o 12 (by decide) (by decide), o 13 (by decide) (by decide)]; exact hl i hi
      · rw [o 14 (by decide) (by decide), o 15 (by decide) (by decide)]; exact hN h12
      · rw [o 40 (by decide) (by decide), o 41 (by decide) (by decide), o 42 (by decide) (by decide)]; exact hR i hi
    · obtain ⟨⟨-, ⟨a1', a2', a3', a4', a5', a6', a7', a8', a9', a10', a11', a12', a13', a14', a15'⟩, hB⟩, hl, hN, hP⟩ := R
      have o : ∀ a, a ≠ 48 → a ≠ 57 → N a = mj a := fun a h1 h2 => by rw [w5 a h1 h2, u2_o _ _ h1]
      have o48 : ∀ k, k ≠ 0 → k ≠ 32 → N 48 k = mj 48 k := fun k h1 h2 => by rw [w3 k h2, u2_ne2 _ _ (Or.inr h1)]
      refine ⟨⟨hW', ⟨?_, ?_, ?_, ?_, ?_, ?_, w2, ?_, ?_, ?_, ?_, ?_, fun k hk => ?_, fun e => ?_, ?_⟩, hB.eq (fun q hq => o q (by omega) (by omega))⟩, fun i hi => ?_, fun h12 => ?_, fun d d0 hd k hk hrel => ?_⟩
      · rw [o48 1 (by decide) (by decide), a1']; rfl
      · rw [o48 2 (by decide) (by decide), a2']; rfl
      · rw [o48 5 (by decide) (by decide), a3']; rfl
      · rw [o48 9 (by decide) (by decide), a4']; rfl
      · rw [o48 26 (by decide) (by decide), a5']; rfl
      · rw [o48 30 (by decide) (by decide), a6']; rfl
      · rw [o48 38 (by decide) (by decide), a8']; rfl
      · rw [o48 43 (by decide) (by decide), a9']; rfl
      · rw [o48 44 (by decide) (by decide), a10']; rfl
      · rw [o48 45 (by decide) (by decide), a11']; rfl
      · rw [o48 46 (by decide) (by decide), a12']; rfl
      · rw [w4 k, e8]
        have hk' : (k : Int) < ((T + 20 : Nat) : Int) := hk
        by_cases e : T ≤ k ∧ k < T + 20
        · rw [if_pos (show T + 0 ≤ k ∧ k < T + 20 by omega), if_pos e]; rfl
        · rw [if_neg (show ¬ (T + 0 ≤ k ∧ k < T + 20) by omega), if_neg e, u2_o _ _ (by decide)]; exact a13' k (by omega)
      · obtain ⟨b1, b2, b3⟩ := a14' e
        exact ⟨by rw [o48 6 (by decide) (by decide), b1]; rfl, by rw [o48 7 (by decide) (by decide), b2]; rfl, by rw [o48 8 (by decide) (by decide), b3]; rfl⟩
      · rw [o 54 (by decide) (by decide), a15']; rfl
      · rw [o 58 (by decide) (by decide), o 59 (by decide) (by decide)]; exact hl i hi
      · rw [o 60 (by decide) (by decide)]; exact hN h12
      · rw [o 56 (by decide) (by decide)]
        have hpa : ∀ d', pa_ (fdS σ T (fdB a0 a1 a2 a3 a4)) d' = pa_ σ d' := by
          intro d'
          induction d' with
          | zero => rfl
          | succ d' ih =>
            show und (σ 9 ((σ 0 15).toNat - 1 - d')) (σ 10 ((σ 0 15).toNat - 1 - d')) (σ 11 ((σ 0 15).toNat - 1 - d')) (pa_ (fdS σ T (fdB a0 a1 a2 a3 a4)) d') = und (σ 9 ((σ 0 15).toNat - 1 - d')) (σ 10 ((σ 0 15).toNat - 1 - d')) (σ 11 ((σ 0 15).toNat - 1 - d')) (pa_ σ d')
            rw [ih]
        rw [hpa d]; exact hP d d0 hd k hk hrel
  · refine ⟨vI (-(nI 1)), σ, mi, ml, _, mk, g_w_feed_0 ⟨fun _ => ⟨rfl, rfl, rfl⟩, fun g => absurd (c2.mpr (by omega)) g⟩, g_r_feed_0 ⟨fun g => absurd (r2.mp g) h, fun _ => ⟨rfl, rfl, rfl⟩⟩, F, (show FR σ (u2 mj 48 0 (nI 0)) from R), ⟨rfl, rfl, rfl, rfl, rfl⟩, fun _ _ _ => rfl, fun _ _ => rfl, fun _ _ => rfl, fun a h1 => u2_o _ _ (by omega), fun _ _ => rfl, rfl⟩
end
