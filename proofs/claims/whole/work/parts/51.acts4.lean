/-! ===== acts: the calls ===== -/
section
variable {nb db b : Nat} {by_ rs : RX} {c : Nat} {σ σ' : SG} {mi mi' mj mj' m1 m2 : MI} {ml mk : ML} {x j : Int32}
theorem Adv.ofA {yw yr : Nat} {as : List AV} (hb : nb = 43 ∧ db = 5 ∨ nb = 5 ∧ db = 43) (I : FC σ nb mi ml) (J : FR σ mj) (A : Agr yw yr as nb db by_ rs mi ml mj mk) : Adv yw yr as nb db by_ rs σ mi ml mj mk := by
  intro c
  obtain ⟨v, σ', mi', mj', mk', h1, h2, h3, h4, h5, h6, h7, h8, h9, h10⟩ := Adv.of hb I J A c
  refine ⟨v, σ', mi', ml, mj', mk', h1, h2, h3, h4, ⟨h5.r4, h5.2 9 (by omega), h5.n, h5.2 0 (by omega), h5.kd⟩, fun a ha _ => h6 a ha, fun a ha => ?_, fun _ _ => rfl, h8, h9, h10⟩
  rcases ha with z | z
  · rw [z]; exact h7
  · exact h6 a (by omega)
/-- what an act makes of a state -/
def ActOf (σ σ' : SG) (K : Nat) (s n b : Int) : Prop :=
  (∀ k, k ≠ 1 → k ≠ 10 → k ≠ 11 → k ≠ 12 → k ≠ 15 → σ' 0 k = σ 0 k) ∧ σ' 0 1 = 0 ∧ σ' 0 11 = 0 ∧ σ' 0 12 = 0 ∧ σ' 0 15 = (kp1 K : Int) ∧ σ' 3 = σ 3 ∧ σ' 4 = σ 4 ∧ σ' 8 = σ 8
  ∧ (∀ k, σ' 9 k = if k = kp1 K - 1 then s else if K < 10 then σ 9 k else σ 9 (k + 1)) ∧ (∀ k, σ' 10 k = if k = kp1 K - 1 then n else if K < 10 then σ 10 k else σ 10 (k + 1)) ∧ (∀ k, σ' 11 k = if k = kp1 K - 1 then b else if K < 10 then σ 11 k else σ 11 (k + 1)) ∧ (∀ k, k < 63 → und s n b (xv σ') k = xv σ k)
theorem actS_of (σ : SG) (K : Nat) (s n b : Int) (a0 k0 : Nat) (v : Int) (h : (a0 = 0 ∧ k0 = 10) ∨ a0 = 1 ∨ a0 = 2) (hx : ∀ k, k < 63 → und s n b (xv (u2 (actS σ K s n b) a0 k0 v)) k = xv σ k) : ActOf σ (u2 (actS σ K s n b) a0 k0 v) K s n b := by
  have e0 : ∀ k, k ≠ 10 → u2 (actS σ K s n b) a0 k0 v 0 k = actS σ K s n b 0 k := fun k hk => by
    rw [u2_if, if_neg (by omega)]
  have eo : ∀ a, a ≠ 0 → a ≠ 1 → a ≠ 2 → u2 (actS σ K s n b) a0 k0 v a = actS σ K s n b a := fun a h1 h2 h3 => u2_o _ _ (by omega)
  refine ⟨fun k h1 h2 h3 h4 h5 => ?_, ?_, ?_, ?_, ?_, ?_, ?_, ?_, fun k => ?_, fun k => ?_, fun k => ?_, hx⟩
  · rw [e0 k h2]; unfold actS; simp [h1, h3, h4, h5]
  · rw [e0 1 (by decide)]; rfl
  · rw [e0 11 (by decide)]; rfl
  · rw [e0 12 (by decide)]; rfl
  · rw [e0 15 (by decide)]; rfl
  · rw [eo 3 (by decide) (by decide) (by decide)]; rfl
  · rw [eo 4 (by decide) (by decide) (by decide)]; rfl
  · rw [eo 8 (by decide) (by decide) (by decide)]; rfl
  · rw [eo 9 (by decide) (by decide) (by decide)]; rfl
  · rw [eo 10 (by decide) (by decide) (by decide)]; rfl
  · rw [eo 11 (by decide) (by decide) (by decide)]; rfl
theorem act_all {K : Nat} (hK : K ≤ 10) (hk : σ 0 15 = K) (hr : σ 0 0 = 1) (F : FC σ nb mi ml) (R : FR σ mj) {s n b : Int} (A : ActOf σ σ' K s n b) (h10 : 0 ≤ σ' 0 10 ∧ σ' 0 10 < 2 ^ (σ 0 5).toNat) (hl : ∀ j, 0 ≤ σ' 1 j ∧ σ' 1 j ≤ 9999) (hs : ∀ j, σ' 2 j = 0 ∨ σ' 2 j = 1 ∨ σ' 2 j = 2) (hn : 0 ≤ n ∧ n < σ 0 5) (hb : (s = 0 ∧ 0 ≤ b ∧ b ≤ 9999) ∨ (s = 1 ∧ (b = 0 ∨ b = 1 ∨ b = 2)) ∨ s = 2) (hbb : nb = 43 ∨ nb = 5)
    (n39 : m2 39 0 = nI (kp1 K)) (n0 : m2 40 (kp1 K - 1) = zI s ∧ m2 41 (kp1 K - 1) = zI n ∧ m2 42 (kp1 K - 1) = zI b) (n1 : ∀ a, a = 40 ∨ a = 41 ∨ a = 42 → ∀ k, k < kp1 K - 1 → m2 a k = if K < 10 then mi a k else mi a (k + 1)) (n2 : ∀ a, a < 39 ∨ 42 < a → m2 a = (u2 mi 1 9 (nI 0)) a)
    (c1 : ∀ a, a ≠ 11 → ¬ (nb ≤ a ∧ a ≤ nb + 4) → mi' a = m2 a) (c11 : ∀ k, k ≠ 2 → k ≠ 3 → mi' 11 k = m2 11 k) (c2 : mi' 11 2 = nI 0) (c3 : mi' 11 3 = nI 0) (cB : RCb σ' nb mi')
    (r1 : m1 48 30 = nI (kp1 K) ∧ m1 48 43 = nI 0 ∧ m1 48 46 = nI 0) (r2 : ∀ k, k ≠ 0 → k ≠ 30 → k ≠ 43 → k ≠ 46 → m1 48 k = mj 48 k) (r3 : ∀ k, k < 63 → m1 56 (63 * (kp1 K - 1) + k) = mj 54 k) (r4 : ∀ i k, i < kp1 K - 1 → k < 63 → m1 56 (63 * i + k) = if K < 10 then mj 56 (63 * i + k) else mj 56 (63 * (i + 1) + k)) (r5 : ∀ a, a ≠ 48 → a ≠ 56 → m1 a = mj a)
    (d1 : ∀ a, a ≠ 48 → a ≠ 54 → mj' a = m1 a) (d48 : ∀ k, k ≠ 1 → k ≠ 2 → mj' 48 k = m1 48 k) (d2 : mj' 48 1 = nI 0) (d3 : mj' 48 2 = -(nI 1)) (dB : RMb σ' mj') (d62 : mj' 54 62 = zI (σ' 0 10)) :
    FC σ' nb mi' ml ∧ FR σ' mj' ∧ (σ' 4 = σ 4 ∧ σ' 0 9 = σ 0 9 ∧ σ' 0 5 = σ 0 5 ∧ σ' 0 0 = σ 0 0 ∧ σ' 0 6 = σ 0 6) ∧ (∀ a, 19 ≤ a → a ≤ 38 → mi' a = mi a) ∧ (∀ a, (a = 0 ∨ 48 ≤ a) → mi' a = mi a) ∧ (∀ a, a < 48 ∨ 65 < a → mj' a = mj a) := by
  obtain ⟨e0, e1, e11, e12, e15, e3, e4, e8, e9, e10, e11', ex⟩ := A
  obtain ⟨IC', -, -, -, hA, hRa⟩ := F
  obtain ⟨IR', -, -, hP⟩ := R
  have hkb := kp1_b hK
  have h5 : σ' 0 5 = σ 0 5 := e0 5 (by decide) (by decide) (by decide) (by decide) (by decide)
  have hW : WF σ' := IC'.1.next hr (fun k a b c d e _ _ => e0 k a b c d e) ⟨by omega, by omega⟩ h10 ⟨by omega, by omega⟩ (Or.inl e12) ⟨by omega, by omega⟩ hl hs e3 e4 e8
  have g : ∀ a, a ≠ 1 → a < 39 ∨ 42 < a → a ≠ 11 → ¬ (nb ≤ a ∧ a ≤ nb + 4) → mi' a = mi a := fun a h1 h2 h3 h4 => by rw [c1 a h3 h4, n2 a h2, u2_o _ _ h1]
  have c41 : ∀ a, a = 39 ∨ a = 40 ∨ a = 41 ∨ a = 42 → mi' a = m2 a := fun a ha => c1 a (by omega) (by omega)
  have e1c : mi' 1 = u2 mi 1 9 (nI 0) 1 := by rw [c1 1 (by decide) (by omega), n2 1 (by decide)]
  refine ⟨FC.act (K := kp1 K) hkb.2 IC' e0 e1 e11 e12 e15 hW (WA.act hK hk hA h5 e15 e9 e10 e11' hn hb) e8 (fun k hk9 => by rw [e1c, u2_ne2 _ _ (Or.inr hk9)]) (by rw [e1c, u2_s]) (g 2 (by decide) (by decide) (by decide) (by omega)) (g 3 (by decide) (by decide) (by decide) (by omega)) (fun k h2 h3 => by rw [c11 k h2 h3, n2 11 (by decide), u2_o _ _ (by decide)]) c2 c3 (by rw [c41 39 (by omega), n39]) cB (RCa.act hK hk hRa e15 e9 e10 e11' (by rw [c41 40 (by omega), c41 41 (by omega), c41 42 (by omega)]; exact n0) (fun a ha k hk => by rw [c41 a (by omega)]; exact n1 a ha k hk)), ?_, ⟨e4, e0 9 (by decide) (by decide) (by decide) (by decide) (by decide), h5, e0 0 (by decide) (by decide) (by decide) (by decide) (by decide), e0 6 (by decide) (by decide) (by decide) (by decide) (by decide)⟩, fun a h1 h2 => g a (by omega) (by omega) (by omega) (by omega), fun a ha => g a (by omega) (by omega) (by omega) (by omega), fun a ha => by rw [d1 a (by omega) (by omega), r5 a (by omega) (by omega)]⟩
  have m56 : mj' 56 = m1 56 := d1 56 (by decide) (by decide)
  exact FR.act (K := kp1 K) hkb.2 IR' e0 e1 e11 e12 e15 hW e8 d2 d3 (by rw [d48 30 (by decide) (by decide), r1.1]) (by rw [d48 43 (by decide) (by decide), r1.2.1]) (by rw [d48 46 (by decide) (by decide), r1.2.2]) (fun k z0 h1 h2 h3 h4 h5 => by rw [d48 k h1 h2, r2 k z0 h3 h4 h5]) (by rw [d1 57 (by decide) (by decide), r5 57 (by decide) (by decide)]) d62 dB (RMp.act hK hk hP h5 e15 (pa_act hK hk e15 e9 e10 e11' ex) (fun k hk63 hrel => xv_ref IR'.2.2 IR'.2.1.lo (by have := IC'.1.nn; omega) hk63 hrel) (fun k hk => by rw [m56]; exact r3 k hk) (fun i k h1 h2 => by rw [m56]; exact r4 i k h1 h2))
end
