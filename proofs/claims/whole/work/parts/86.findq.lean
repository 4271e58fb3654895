/-! ===== tours: the class's find, with a new row or without ===== -/
theorem At.room {y pc : Nat} {ls : eLS} {t : List AV} {k s : Nat} {Z : FT} {c : Nat} {mr : MR} {mi : MI} {ml : ML} (K : At y pc ls t 0 0 Z c mr mi ml) : At y pc ls t k s Z c mr mi ml := by
  intro l p e S m args below meth cd H locs cells slots mc ms lsC X D aC B sh0 sh hfl hC hR hsh hst hL hS hc hs
  exact K l p e S m args below meth cd H locs cells slots mc ms lsC X D aC B sh0 sh hfl hC hR hsh hst hL hS (by omega) (by omega)
theorem z2_o {α : Type} (f : Nat → Nat → α) {a b : Nat} (v : α) (h : b ≠ a) : z2 f a v b = f b := if_neg h
theorem MRt_len : MRt.length = 67 := rfl
theorem MR0_hi {a : Nat} (h : 67 ≤ a) (k : Nat) : MR0 a k = none := by
  unfold MR0
  have e : MRt.getD a [] = [] := by
    rw [List.getD_eq_getElem?_getD, List.getElem?_eq_none (by rw [MRt_len]; exact h)]; rfl
  rw [e]; rfl
theorem mrc_new {nb db c : Nat} {by_ rs q : RX} (h : 67 ≤ c) : u2 (z2 (MRc nb db by_ rs) c none) 35 4 q = MRc nb db by_ q := by
  funext a k
  unfold MRc
  rw [u2_if, u2_if]
  by_cases e : a = 35 ∧ k = 4
  · rw [if_pos e, if_pos e]
  · rw [if_neg e, if_neg e]
    by_cases e2 : a = c
    · have h1 : z2 (u2 (u2 (u2 (u2 MR0 1 7 (some (13, 0, nb))) 4 2 (some (13, 0, db))) 4 3 by_) 35 4 rs) c none a k = none := by
        unfold z2; rw [if_pos e2]
      rw [h1, u2_o _ _ (by omega), u2_o _ _ (by omega), u2_o _ _ (by omega), MR0_hi (by omega)]
    · rw [z2_o _ _ e2, u2_if, if_neg e]
def rcO (rn rc c : Nat) : Prop := (rn = 0 ∧ rc = 38) ∨ (rn ≤ 49152 ∧ 66 < rc ∧ rc < c)
section
variable {nb db b : Nat} {by_ rs : RX} {rn rc : Nat} {c : Nat} {mi mj : MI} {ml mk : ML} {K : Nat} {μ : Nat → Nat}
def fmm (mi : MI) (nb : Nat) : MI := u2 (u2 mi 35 0 (nI 1)) 35 5 (if nI 12 < u2 mi 35 0 (nI 1) nb 4 then nI 12 else u2 mi 35 0 (nI 1) nb 4)
theorem FS_of (hb : nb = 43 ∧ db = 5 ∨ nb = 5 ∧ db = 43) (hK : K ≤ 12) (hμ : ∀ q, q < K → μ q < 2 ^ 31) (h4 : mi nb 4 = nI K) (hm : ∀ q, q < K → mi (nb + 4) q = nI (μ q)) : ∃ m1 : MI, Ret m_tr_findSteps [vR 17 0 35, vR 13 0 nb] none c (MRc nb db by_ rs) (fmm mi nb) ml m1 ml ∧ TS K μ m1 ∧ m1 35 0 = nI 1 ∧ ∀ z, z ≠ 35 → z ≠ 37 → m1 z = mi z := by
  have e4 : u2 mi 35 0 (nI 1) nb 4 = nI K := by rw [u2_o _ _ (by omega)]; exact h4
  have e5 : fmm mi nb 35 5 = nI K := by
    unfold fmm
    rw [u2_s, e4, if_neg (by rw [nI_ltI (by decide) (by omega)]; omega)]
  obtain ⟨m1, q1, q2, q3⟩ := R_findSteps (nb := nb) (db := db) (by_ := by_) (rs := rs) (c := c) (mi := fmm mi nb) (ml := ml) (b := nb) (hbb_of hb) hK hμ e5 (fun q hq => by
    unfold fmm
    rw [u2_o _ _ (by omega), u2_o _ _ (by omega)]; exact hm q hq)
  refine ⟨m1, q1, q2, ?_, fun z h1 h2 => ?_⟩
  · rw [q3 35 (by decide)]
    unfold fmm
    rw [u2_ne2 _ _ (Or.inr (by decide)), u2_s]
  · rw [q3 z h2]
    unfold fmm
    rw [u2_o _ _ h1, u2_o _ _ h1]
theorem K_findA (hb : nb = 43 ∧ db = 5 ∨ nb = 5 ∧ db = 43) (hrc : rcO rn rc c) (hK : K ≤ 12) (hμ : ∀ q, q < K → μ q < 2 ^ 31) (h4 : mi nb 4 = nI K) (hm : ∀ q, q < K → mi (nb + 4) q = nI (μ q)) (h01 : mi 35 0 = 0 ∨ mi 35 0 = 1) (hkn : mi 35 0 = 1 → TD K μ mi) (hg : mi 35 0 = 1 ∨ K * 2 ^ K ≤ rn) :
    ∃ m' : MI, Ret m_tr_find [vR 17 0 35, vR 13 0 nb] none c (MRc nb db by_ (some (0, rn, rc))) mi ml m' ml ∧ m' 35 0 = 1 ∧ TD K μ m' ∧ ∀ a, a ≠ 35 → a ≠ 36 → a ≠ 37 → a ≠ rc → m' a = mi a := by
  by_cases h1 : mi 35 0 = 1
  · refine ⟨mi, fun Q hQ => ?_, h1, hkn h1, fun _ _ _ _ _ => rfl⟩
    refine ok_wq inlT 400 rfl rfl ?_
    exact ⟨fun g => absurd (g.symm.trans h1) (by decide), fun _ => hQ⟩
  · have h0 : mi 35 0 = 0 := by rcases h01 with z | z; exact z; exact absurd z h1
    have hg : K * 2 ^ K ≤ rn := by rcases hg with z | z; exact absurd z h1; exact z
    have hp := p2K hK
    have hp0 := Nat.two_pow_pos K
    have hrk := rnK hK
    have hrn2 : rn < 2 ^ 31 := by rcases hrc with z | z <;> omega
    have hrcn : rc ≠ 35 ∧ rc ≠ 36 ∧ rc ≠ 37 := by rcases hrc with z | z <;> omega
    obtain ⟨m1, q1, q2, q3, q4⟩ := FS_of (nb := nb) (db := db) (by_ := by_) (rs := some (0, rn, rc)) (c := c) (ml := ml) hb hK hμ h4 hm
    have ek : m1 35 5 <<< (m1 35 5 &&& 31) = nI (K * 2 ^ K) := shl_n q2.1 q2.1 (by omega) (by rw [Nat.mul_comm]; omega)
    obtain ⟨m2, s1, s2, s3, s4⟩ := FI_out (nb := nb) (db := db) (by_ := by_) (c := c) (ml := ml) (μ := μ) (b := nb) (hbb_of hb) hK (show 2 ^ K * K ≤ rn by rw [Nat.mul_comm]; exact hg) hrn2 hrcn 0 (by omega) ((nI 1 <<< (m1 35 5 &&& 31)) - nI 1) m1 (by
      rw [shl_n rfl q2.1 (by omega) (by omega), Nat.one_mul, nI_sub (by omega)]; rfl) q2 (fun L' hL' => by omega)
    refine ⟨m2, fun Q hQ => ?_, by rw [s3 0 (by decide), q3]; rfl, s2, fun a a1 a2 a3 a4 => by rw [s4 a a1 a2 a4, q4 a a1 a3]⟩
    rcases hb with ⟨rfl, rfl⟩ | ⟨rfl, rfl⟩
    all_goals
      refine ok_wq inlT 400 rfl rfl ?_
      refine ⟨fun _ => ?_, fun g => absurd h0 g⟩
      refine ⟨Or.inr rfl, ?_⟩
      refine ⟨0, 0, Nat.zero_le _, Nat.zero_le _, q1 _ ?_⟩
      refine ⟨fun _ => ?_, fun g => absurd (show m1 35 5 <<< (m1 35 5 &&& 31) ≤ nI rn by rw [ek, nI_leN (by rw [Nat.mul_comm]; omega) hrn2]; exact hg) g⟩
      exact s1 Q hQ
theorem K_findB (hb : nb = 43 ∧ db = 5 ∨ nb = 5 ∧ db = 43) (hc : 67 ≤ c) (hrc : rcO rn rc c) (hK : K ≤ 12) (hμ : ∀ q, q < K → μ q < 2 ^ 31) (h4 : mi nb 4 = nI K) (hm : ∀ q, q < K → mi (nb + 4) q = nI (μ q)) (h0 : mi 35 0 = 0) (hg : rn < K * 2 ^ K) {Q : Option AV → HP}
    (hQ : ∀ m' : MI, m' 35 0 = 1 → TD K μ m' → (∀ a, a ≠ 35 → a ≠ 36 → a ≠ 37 → a ≠ c → m' a = mi a) → Q none (c + 1) (MRc nb db by_ (some (0, K * 2 ^ K, c))) m' (z2 ml c 0)) :
    Ok m_tr_find 1 49152 [vR 17 0 35, vR 13 0 nb] Q c (MRc nb db by_ (some (0, rn, rc))) mi ml := by
  have hp := p2K hK
  have hp0 := Nat.two_pow_pos K
  have hrk := rnK hK
  rw [Nat.mul_comm] at hrk
  have hrn2 : rn < 2 ^ 31 := by rcases hrc with z | z <;> omega
  obtain ⟨m1, q1, q2, q3, q4⟩ := FS_of (nb := nb) (db := db) (by_ := by_) (rs := some (0, rn, rc)) (c := c) (ml := ml) hb hK hμ h4 hm
  have ek : m1 35 5 <<< (m1 35 5 &&& 31) = nI (K * 2 ^ K) := shl_n q2.1 q2.1 (by omega) (by omega)
  have T1 : TS K μ (z2 m1 c 0) := ⟨by rw [z2_o _ _ (by omega)]; exact q2.1, fun a m h1 h2 => by rw [z2_o _ _ (by omega)]; exact q2.2 a m h1 h2⟩
  obtain ⟨m2, s1, s2, s3, s4⟩ := FI_out (nb := nb) (db := db) (by_ := by_) (c := c + 1) (ml := z2 ml c 0) (μ := μ) (b := nb) (rn := K * 2 ^ K) (rc := c) (hbb_of hb) hK (by rw [Nat.mul_comm]; exact Nat.le_refl _) (by omega) ⟨by omega, by omega, by omega⟩ 0 (by omega) ((nI 1 <<< (z2 m1 c 0 35 5 &&& 31)) - nI 1) (z2 m1 c 0) (by
      rw [shl_n rfl T1.1 (by omega) (by omega), Nat.one_mul, nI_sub (by omega)]; rfl) T1 (fun L' hL' => by omega)
  have hQ2 := hQ m2 (by rw [s3 0 (by decide), z2_o _ _ (by omega), q3]; rfl) s2 (fun a a1 a2 a3 a4 => by rw [s4 a a1 a2 a4, z2_o _ _ a4, q4 a a1 a3])
  rcases hb with ⟨rfl, rfl⟩ | ⟨rfl, rfl⟩
  all_goals
    refine ok_wq inlT 400 rfl rfl ?_
    refine ⟨fun _ => ?_, fun g => absurd h0 g⟩
    refine ⟨Or.inr rfl, ?_⟩
    refine ⟨0, 0, Nat.zero_le _, Nat.zero_le _, q1 _ ?_⟩
    refine ⟨fun g => absurd (show m1 35 5 <<< (m1 35 5 &&& 31) ≤ nI rn from g) (by rw [ek, nI_leN (by omega) hrn2]; omega), fun _ => ?_⟩
    refine ⟨K * 2 ^ K, ek, by omega, Nat.le_refl 1, (by omega : K * 2 ^ K ≤ 49152), ?_⟩
    have G := s1 Q hQ2
    rw [← mrc_new (rs := some (0, rn, rc)) (show 67 ≤ c by omega)] at G
    exact At.room G
end
