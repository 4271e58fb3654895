/-! ===== undo: the state ===== -/
def undP (σ : SG) (Q : Nat) : Nat → Int := und (σ 9 Q) (σ 10 Q) (σ 11 Q) (xv σ)
def undS (σ : SG) (Q : Nat) : SG := fun a => if a = 0 then (fun k => if k = 1 then 0 else if k = 11 then 0 else if k = 12 then 0 else if k = 15 then (Q : Int) else if k = 10 then undP σ Q 62 else σ 0 k) else if a = 1 then (fun k => if k < 31 then undP σ Q k else σ 1 k) else if a = 2 then (fun k => if k < 31 then undP σ Q (31 + k) else σ 2 k) else σ a
theorem und_cg {s n b : Int} {x y : Nat → Int} {k : Nat} (h : x k = y k) (h62 : x 62 = y 62) : und s n b x k = und s n b y k := by unfold und; rw [h, h62]
section
variable {nb db b : Nat} {by_ rs : RX} {c : Nat} {σ σ' : SG} {mi mi' mj mj' m m1 m2 : MI} {ml mk : ML} {x j : Int32} {Q p n : Nat}
theorem undS_xv {k : Nat} (hk : k < 63) : xv (undS σ Q) k = undP σ Q k := by
  unfold xv
  by_cases e : k < 31
  · rw [if_pos e]
    show (if k < 31 then undP σ Q k else σ 1 k) = _
    rw [if_pos e]
  · rw [if_neg e]
    by_cases e2 : k < 62
    · rw [if_pos e2]
      show (if k - 31 < 31 then undP σ Q (31 + (k - 31)) else σ 2 (k - 31)) = _
      rw [if_pos (show k - 31 < 31 by omega), show 31 + (k - 31) = k by omega]
    · rw [if_neg e2, show k = 62 by omega]
      rfl
theorem und_all (hQ : Q < 10) (hk : σ 0 15 = ((Q + 1 : Nat) : Int)) (hr : σ 0 0 = 1) (F : FC σ nb mi ml) (R : FR σ mj) (h10 : 0 ≤ undS σ Q 0 10 ∧ undS σ Q 0 10 < 2 ^ (σ 0 5).toNat) (hl : ∀ j, 0 ≤ undS σ Q 1 j ∧ undS σ Q 1 j ≤ 9999) (hs : ∀ j, undS σ Q 2 j = 0 ∨ undS σ Q 2 j = 1 ∨ undS σ Q 2 j = 2) (hbb : nb = 43 ∨ nb = 5)
    (c1 : ∀ a, a ≠ 1 → a ≠ 11 → a ≠ 39 → ¬ (nb ≤ a ∧ a ≤ nb + 4) → mi' a = mi a) (c1k : ∀ k, k ≠ 9 → mi' 1 k = mi 1 k) (c19 : mi' 1 9 = nI 0) (c11 : ∀ k, k ≠ 2 → k ≠ 3 → mi' 11 k = mi 11 k) (c2 : mi' 11 2 = nI 0) (c3 : mi' 11 3 = nI 0) (c39 : mi' 39 0 = nI Q) (cB : RCb (undS σ Q) nb mi')
    (d54 : ∀ k, k < 63 → mj' 54 k = mj 56 (63 * Q + k)) (d1 : mj' 48 43 = nI 0 ∧ mj' 48 46 = nI 0 ∧ mj' 48 1 = nI 0 ∧ mj' 48 2 = -(nI 1)) (d30 : mj' 48 30 = nI Q) (d48 : ∀ k, k ≠ 0 → k ≠ 1 → k ≠ 2 → k ≠ 30 → k ≠ 43 → k ≠ 46 → mj' 48 k = mj 48 k) (dq : ∀ a, a ≠ 48 → a ≠ 54 → mj' a = mj a) :
    FC (undS σ Q) nb mi' ml ∧ FR (undS σ Q) mj' ∧ (undS σ Q 4 = σ 4 ∧ undS σ Q 0 9 = σ 0 9 ∧ undS σ Q 0 5 = σ 0 5 ∧ undS σ Q 0 0 = σ 0 0 ∧ undS σ Q 0 6 = σ 0 6) ∧ (∀ a, 19 ≤ a → a ≤ 38 → mi' a = mi a) ∧ (∀ a, (a = 0 ∨ 48 ≤ a) → mi' a = mi a) ∧ (∀ a, a < 48 ∨ 65 < a → mj' a = mj a) := by
  obtain ⟨IC', -, -, -, hA, hRa⟩ := F
  obtain ⟨IR', -, -, hP⟩ := R
  have e0 : ∀ k, k ≠ 1 → k ≠ 10 → k ≠ 11 → k ≠ 12 → k ≠ 15 → undS σ Q 0 k = σ 0 k := fun k h1 h2 h3 h4 h5 => by
    unfold undS; simp [h1, h2, h3, h4, h5]
  have e1 : undS σ Q 0 1 = 0 := rfl
  have e11 : undS σ Q 0 11 = 0 := rfl
  have e12 : undS σ Q 0 12 = 0 := rfl
  have e15 : undS σ Q 0 15 = (Q : Int) := rfl
  have h5 : undS σ Q 0 5 = σ 0 5 := e0 5 (by decide) (by decide) (by decide) (by decide) (by decide)
  have hnn := IC'.1.nn
  have hW : WF (undS σ Q) := IC'.1.next hr (fun k a b c d e _ _ => e0 k a b c d e) ⟨by omega, by omega⟩ h10 ⟨by omega, by omega⟩ (Or.inl e12) ⟨by omega, by omega⟩ hl hs rfl rfl rfl
  have hWA : WA (undS σ Q) := fun i hi => by
    have := hA i (by omega)
    refine ⟨?_, this.2⟩
    show 0 ≤ σ 10 i ∧ σ 10 i < undS σ Q 0 5
    rw [h5]; exact this.1
  have hCa : RCa (undS σ Q) mi' := fun i hi => by
    have := hRa i (by omega)
    rw [c1 40 (by decide) (by decide) (by decide) (by omega), c1 41 (by decide) (by decide) (by decide) (by omega), c1 42 (by decide) (by decide) (by decide) (by omega)]
    exact this
  have hp1 : ∀ k, pa_ σ 1 k = undP σ Q k := fun k => by
    show und (σ 9 ((σ 0 15).toNat - 1 - 0)) (σ 10 ((σ 0 15).toNat - 1 - 0)) (σ 11 ((σ 0 15).toNat - 1 - 0)) (xv σ) k = _
    rw [show (σ 0 15).toNat - 1 - 0 = Q by omega]; rfl
  have hpa : ∀ d, ∀ k, k < 63 → pa_ (undS σ Q) d k = pa_ σ (d + 1) k := by
    intro d
    induction d with
    | zero => intro k hk; rw [hp1]; exact undS_xv hk
    | succ d ih =>
      intro k hk
      show und (σ 9 ((undS σ Q 0 15).toNat - 1 - d)) (σ 10 ((undS σ Q 0 15).toNat - 1 - d)) (σ 11 ((undS σ Q 0 15).toNat - 1 - d)) (pa_ (undS σ Q) d) k = und (σ 9 ((σ 0 15).toNat - 1 - (d + 1))) (σ 10 ((σ 0 15).toNat - 1 - (d + 1))) (σ 11 ((σ 0 15).toNat - 1 - (d + 1))) (pa_ σ (d + 1)) k
      rw [show (σ 0 15).toNat - 1 - (d + 1) = (undS σ Q 0 15).toNat - 1 - d by omega]
      exact und_cg (ih k hk) (ih 62 (by decide))
  have hrow : ∀ k, k < 63 → rel σ k → mj' 54 k = zI (xv (undS σ Q) k) := fun k hk hrel => by
    have := hP 1 (by decide) (by omega) k hk hrel
    rw [show (σ 0 15).toNat - 1 = Q by omega] at this
    rw [d54 k hk, this, undS_xv hk, hp1]
  have hMp : RMp (undS σ Q) mj' := fun d hd hd2 k hk hrel => by
    have hrel' : rel σ k := by unfold rel at hrel ⊢; rw [h5] at hrel; exact hrel
    have := hP (d + 1) (by omega) (by omega) k hk hrel'
    rw [dq 56 (by decide) (by decide), hpa d k hk, ← this, show (σ 0 15).toNat - (d + 1) = (undS σ Q 0 15).toNat - d by omega]
  have s0 : ∀ k, k = 5 ∨ k = 6 ∨ k = 7 ∨ k = 8 ∨ k = 9 → undS σ Q 0 k = σ 0 k := fun k hk => e0 k (by omega) (by omega) (by omega) (by omega) (by omega)
  refine ⟨FC.act (K := Q) (by omega) IC' e0 e1 e11 e12 e15 hW hWA rfl c1k c19 (c1 2 (by decide) (by decide) (by decide) (by omega)) (c1 3 (by decide) (by decide) (by decide) (by omega)) c11 c2 c3 c39 cB hCa, ?_, ⟨rfl, s0 9 (by omega), h5, e0 0 (by decide) (by decide) (by decide) (by decide) (by decide), s0 6 (by omega)⟩, fun a h1 h2 => c1 a (by omega) (by omega) (by omega) (by omega), fun a ha => c1 a (by omega) (by omega) (by omega) (by omega), fun a ha => dq a (by omega) (by omega)⟩
  exact FR.act (K := Q) (by omega) IR' e0 e1 e11 e12 e15 hW rfl d1.2.2.1 d1.2.2.2 d30 d1.1 d1.2.1 d48 (dq 57 (by decide) (by decide)) (by rw [hrow 62 (by decide) (Or.inr (Or.inr rfl)), xv_62])
    (IR'.2.2.upd (dq 49 (by decide) (by decide)) (fun i hi => by
      have h31 := InK.n31 IC'.1 hi
      rw [hrow i (by omega) (Or.inl hi), xv_lo _ h31]) (fun i hi => by
      have h31 := InK.n31 IC'.1 hi
      rw [hrow (31 + i) (by omega) (Or.inr (Or.inl ⟨by omega, by omega⟩)), xv_sh _ h31]) (dq 50 (by decide) (by decide)) (dq 51 (by decide) (by decide)) s0 rfl rfl) hMp
end
