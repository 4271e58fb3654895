/-! ===== acts: the reference's pasts; a state after an act ===== -/
section
variable {nb db b : Nat} {by_ rs : RX} {c : Nat} {σ : SG} {mi mj : MI} {ml mk : ML} {x j : Int32}
/-- the reference remembers -/
theorem P_copy {K : Nat} (hK : K < 10) : ∀ q, q ≤ 63 → ∀ (i : Int32) (m : MI), i = nI q → m 48 30 = nI K → ∃ m', Go m_r_remembers 51 [some (vR 19 0 48), some (vI i)] [] none c (MRc nb db by_ rs) m mk m' mk ∧ (m' 48 30 = nI (K + 1) ∧ m' 48 43 = nI 0 ∧ m' 48 46 = nI 0) ∧ (∀ k, k ≠ 30 → k ≠ 43 → k ≠ 46 → m' 48 k = m 48 k) ∧ (∀ k, m' 56 k = if 63 * K + q ≤ k ∧ k < 63 * K + 63 then m 54 (k - 63 * K) else m 56 k) ∧ ∀ a, a ≠ 48 → a ≠ 56 → m' a = m a := by
  refine upto ?_ ?_
  · intro i m hi hk
    refine ⟨_, g_r_remembers_51 ⟨fun _ => ⟨rfl, rfl, rfl⟩, fun h => absurd (by rw [hi]; exact Int32.le_refl _) h⟩, ⟨?_, ?_, u2_s _ _ _ _⟩, fun k h1 h2 h3 => ?_, fun k => ?_, fun a h1 h2 => ?_⟩
    · rw [u2_ne2 _ _ (Or.inr (by decide)), u2_ne2 _ _ (Or.inr (by decide)), u2_s, hk, nI_add]
    · rw [u2_ne2 _ _ (Or.inr (by decide)), u2_s]
    · rw [u2_ne2 _ _ (Or.inr h3), u2_ne2 _ _ (Or.inr h2), u2_ne2 _ _ (Or.inr h1)]
    · rw [u2_o _ _ (by decide), u2_o _ _ (by decide), u2_o _ _ (by decide), if_neg (by omega)]
    · rw [u2_o _ _ h1, u2_o _ _ h1, u2_o _ _ h1]
  · intro q hq ih i m hi hk
    have e1 : nI 63 * m 48 30 + i = nI (63 * K + q) := by rw [hk, hi, nI_z, nI_z, zI_mul, nI_z, zI_add, nI_z]; congr 1
    obtain ⟨m', p1, p2, p3, p4, p5⟩ := ih (i + nI 1) (u2 m 56 (63 * K + q) (m 54 q)) (inc hi) (by rw [u2_o _ _ (by decide), hk])
    refine ⟨m', g_r_remembers_51 ⟨fun g => absurd g ?_, fun _ => ⟨ixn hi (by omega) (by decide), ixn e1 (by omega) (by decide), ?_⟩⟩, p2, fun k h1 h2 h3 => ?_, fun k => ?_, fun a h1 h2 => ?_⟩
    · rw [hi, nI_leN (by decide) (by omega)]; omega
    · rw [cln e1 (by omega), cln hi (by omega)]; exact p1
    · rw [p3 k h1 h2 h3, u2_o _ _ (by decide)]
    · have hu : ∀ t, u2 m 56 (63 * K + q) (m 54 q) 56 t = if t = 63 * K + q then m 54 q else m 56 t := fun t => by rw [u2_if]; simp
      rw [p4 k, u2_o _ _ (show (54 : Nat) ≠ 56 by decide), hu]
      by_cases e2 : 63 * K + (q + 1) ≤ k ∧ k < 63 * K + 63
      · rw [if_pos e2, if_pos (by omega)]
      · rw [if_neg e2]
        by_cases e : k = 63 * K + q
        · rw [if_pos e, if_pos (by omega), show k - 63 * K = q by omega]
        · rw [if_neg e, if_neg (by omega)]
    · rw [p5 a h1 h2, u2_o _ _ h2]
theorem P_shift : ∀ q, q ≤ 567 → ∀ (i : Int32) (m : MI), i = nI q → m 48 30 = nI 10 → ∃ m1, (∀ m', Go m_r_remembers 51 [some (vR 19 0 48), some (vI (nI 0))] [] none c (MRc nb db by_ rs) m1 mk m' mk → Go m_r_remembers 11 [some (vR 19 0 48), some (vI i)] [] none c (MRc nb db by_ rs) m mk m' mk) ∧ m1 48 30 = nI 9 ∧ (∀ k, k ≠ 30 → m1 48 k = m 48 k) ∧ (∀ k, k < 567 → m1 56 k = if q ≤ k then m 56 (k + 63) else m 56 k) ∧ ∀ a, a ≠ 48 → a ≠ 56 → m1 a = m a := by
  refine upto ?_ ?_
  · intro i m hi hk
    refine ⟨u2 m 48 30 (m 48 30 - nI 1), fun m' G => g_r_remembers_11 ⟨fun _ => G, fun h => absurd (by rw [hi]; exact Int32.le_refl _) h⟩, ?_, fun k hk => u2_ne2 _ _ (Or.inr hk), fun k hk => ?_, fun a h1 _ => u2_o _ _ h1⟩
    · rw [u2_s, hk]; rfl
    · rw [u2_o _ _ (by decide), if_neg (by omega)]
  · intro q hq ih i m hi hk
    have e1 : i + nI 63 = nI (q + 63) := by rw [hi, nI_add]
    obtain ⟨m1, p1, p2, p3, p4, p5⟩ := ih (i + nI 1) (u2 m 56 q (m 56 (q + 63))) (inc hi) (by rw [u2_o _ _ (by decide), hk])
    refine ⟨m1, fun m' G => g_r_remembers_11 ⟨fun g => absurd g ?_, fun _ => ⟨ixn e1 (by omega) (by decide), ixn hi (by omega) (by decide), ?_⟩⟩, p2, fun k hk => ?_, fun k hk => ?_, fun a h1 h2 => ?_⟩
    · rw [hi, nI_leN (by decide) (by omega)]; omega
    · rw [cln e1 (by omega), cln hi (by omega)]; exact p1 m' G
    · rw [p3 k hk, u2_o _ _ (by decide)]
    · have hu : ∀ t, u2 m 56 q (m 56 (q + 63)) 56 t = if t = q then m 56 (q + 63) else m 56 t := fun t => by rw [u2_if]; simp
      rw [p4 k hk, hu, hu]
      by_cases e2 : q + 1 ≤ k
      · rw [if_pos e2, if_neg (by omega), if_pos (by omega)]
      · rw [if_neg e2]
        by_cases e : k = q
        · rw [if_pos e, if_pos (by omega), e]
        · rw [if_neg e, if_neg (by omega)]
    · rw [p5 a h1 h2, u2_o _ _ h2]
theorem R_remembers {K : Nat} (hK : K ≤ 10) (hk : mj 48 30 = nI K) : ∃ m', Ret m_r_remembers [vR 19 0 48] none c (MRc nb db by_ rs) mj mk m' mk ∧ (m' 48 30 = nI (kp1 K) ∧ m' 48 43 = nI 0 ∧ m' 48 46 = nI 0) ∧ (∀ k, k ≠ 30 → k ≠ 43 → k ≠ 46 → m' 48 k = mj 48 k) ∧ (∀ k, k < 63 → m' 56 (63 * (kp1 K - 1) + k) = mj 54 k) ∧ (∀ i k, i < kp1 K - 1 → k < 63 → m' 56 (63 * i + k) = if K < 10 then mj 56 (63 * i + k) else mj 56 (63 * (i + 1) + k)) ∧ ∀ a, a ≠ 48 → a ≠ 56 → m' a = mj a := by
  by_cases h10 : K < 10
  · have e1 : kp1 K = K + 1 := if_pos h10
    obtain ⟨m', p1, p2, p3, p4, p5⟩ := P_copy (nb := nb) (db := db) (by_ := by_) (rs := rs) (c := c) (mk := mk) h10 0 (by omega) (nI 0) mj rfl hk
    refine ⟨m', g_r_remembers_0 ⟨fun _ => p1, fun g => ?_⟩, by rw [e1]; exact p2, p3, fun k hk => ?_, fun i k hi hk => ?_, p5⟩
    · rw [hk, nI_eq (by omega) (by decide)] at g; omega
    · rw [e1, p4, show K + 1 - 1 = K by omega, if_pos (by omega), show 63 * K + k - 63 * K = k by omega]
    · rw [e1] at hi
      rw [p4, if_pos h10, if_neg (by omega)]
  · have hK10 : K = 10 := by omega
    have e1 : kp1 K = 10 := if_neg h10
    subst hK10
    obtain ⟨m1, q1, q2, q3, q4, q5⟩ := P_shift (nb := nb) (db := db) (by_ := by_) (rs := rs) (c := c) (mk := mk) 0 (by omega) (nI 0) mj rfl hk
    obtain ⟨m', p1, p2, p3, p4, p5⟩ := P_copy (nb := nb) (db := db) (by_ := by_) (rs := rs) (c := c) (mk := mk) (K := 9) (by decide) 0 (by omega) (nI 0) m1 rfl q2
    refine ⟨m', g_r_remembers_0 ⟨fun g => absurd hk g, fun _ => q1 m' p1⟩, by rw [e1]; exact p2, fun k h1 h2 h3 => by rw [p3 k h1 h2 h3, q3 k h1], fun k hk => ?_, fun i k hi hk => ?_, fun a h1 h2 => by rw [p5 a h1 h2, q5 a h1 h2]⟩
    · rw [e1, p4, if_pos (by omega), q5 54 (by decide) (by decide), show 63 * (10 - 1) + k - 63 * 9 = k by omega]
    · rw [e1] at hi
      rw [p4, if_neg h10, if_neg (by omega), q4 _ (by omega), if_pos (by omega), show 63 * i + k + 63 = 63 * (i + 1) + k by omega]
/-- the state after an act: its number of acts, acts, nothing seen, no trouble; the rest by hand -/
def actS (σ : SG) (K : Nat) (s n b : Int) : SG := fun a => if a = 0 then (fun k => if k = 1 then 0 else if k = 11 then 0 else if k = 12 then 0 else if k = 15 then (kp1 K : Int) else σ 0 k) else if a = 9 then (fun k => if k = kp1 K - 1 then s else if K < 10 then σ 9 k else σ 9 (k + 1)) else if a = 10 then (fun k => if k = kp1 K - 1 then n else if K < 10 then σ 10 k else σ 10 (k + 1)) else if a = 11 then (fun k => if k = kp1 K - 1 then b else if K < 10 then σ 11 k else σ 11 (k + 1)) else σ a
theorem kp1_b {K : Nat} (h : K ≤ 10) : 1 ≤ kp1 K ∧ kp1 K ≤ 10 := by
  unfold kp1; split <;> omega
/-- the rows of an act ago are the rows of now -/
theorem pa_act {σ σ' : SG} {K : Nat} (hK : K ≤ 10) (hk : σ 0 15 = K) {s n b : Int} (h15 : σ' 0 15 = (kp1 K : Int)) (h9 : ∀ k, σ' 9 k = if k = kp1 K - 1 then s else if K < 10 then σ 9 k else σ 9 (k + 1)) (h10 : ∀ k, σ' 10 k = if k = kp1 K - 1 then n else if K < 10 then σ 10 k else σ 10 (k + 1)) (h11 : ∀ k, σ' 11 k = if k = kp1 K - 1 then b else if K < 10 then σ 11 k else σ 11 (k + 1)) (hx : ∀ k, k < 63 → und s n b (xv σ') k = xv σ k) : ∀ d, d + 1 ≤ kp1 K → ∀ k, k < 63 → pa_ σ' (d + 1) k = pa_ σ d k := by
  have hb := kp1_b hK
  have e15 : (σ' 0 15).toNat = kp1 K := by omega
  have e15' : (σ 0 15).toNat = K := by omega
  have uc : ∀ (s n b : Int) (x y : Nat → Int), (∀ k, k < 63 → x k = y k) → ∀ k, k < 63 → und s n b x k = und s n b y k := by
    intro s n b x y h k hk
    unfold und
    rw [h k hk, h 62 (by decide)]
  intro d
  induction d with
  | zero =>
    intro _ k hk63
    show und (σ' 9 ((σ' 0 15).toNat - 1 - 0)) (σ' 10 ((σ' 0 15).toNat - 1 - 0)) (σ' 11 ((σ' 0 15).toNat - 1 - 0)) (xv σ') k = xv σ k
    rw [e15, h9, h10, h11, Nat.sub_zero, if_pos rfl, if_pos rfl, if_pos rfl]
    exact hx k hk63
  | succ d ih =>
    intro hd k hk63
    show und (σ' 9 ((σ' 0 15).toNat - 1 - (d + 1))) (σ' 10 ((σ' 0 15).toNat - 1 - (d + 1))) (σ' 11 ((σ' 0 15).toNat - 1 - (d + 1))) (pa_ σ' (d + 1)) k = und (σ 9 ((σ 0 15).toNat - 1 - d)) (σ 10 ((σ 0 15).toNat - 1 - d)) (σ 11 ((σ 0 15).toNat - 1 - d)) (pa_ σ d) k
    have hne : ¬ (kp1 K - 1 - (d + 1) = kp1 K - 1) := by omega
    rw [e15, e15', h9, h10, h11, if_neg hne, if_neg hne, if_neg hne]
    have idx : (if K < 10 then kp1 K - 1 - (d + 1) else kp1 K - 1 - (d + 1) + 1) = K - 1 - d := by
      unfold kp1 at hd ⊢
      by_cases h : K < 10
      · rw [if_pos h] at hd ⊢; rw [if_pos h]; omega
      · rw [if_neg h] at hd ⊢; rw [if_neg h]; omega
    by_cases h : K < 10
    · rw [if_pos h] at idx
      rw [if_pos h, if_pos h, if_pos h, idx]
      exact uc _ _ _ _ _ (ih (by omega)) k hk63
    · rw [if_neg h] at idx
      rw [if_neg h, if_neg h, if_neg h, idx]
      exact uc _ _ _ _ _ (ih (by omega)) k hk63
end
