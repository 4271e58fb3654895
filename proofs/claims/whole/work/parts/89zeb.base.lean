/-! ===== what the law's loop needs ===== -/
def QW : Option AV → HP := fun r _ _ _ _ => r = some (vI 1)
def KL (L n : Nat) (s : Nat → Int32) (l4 : Int32) : Prop := ∀ (f k s0 c : Nat) (mr : MR) (mi : MI) (ml : ML), f + n ≤ k → 49152 * f + 6 * n ≤ s0 → LI f s c mr mi ml → At m_l_law 23 [some (vR 104 L 0), some (vR 10 0 1), some (vR 19 0 48), some (vR 1 1 66), some (vI (l4 + nI 6)), none, none] [] k s0 (Zq QW) c mr mi ml
theorem LI.sc {f c : Nat} {s : Nat → Int32} {mr : MR} {mi : MI} {ml : ML} (H : LI f s c mr mi ml) : mi 0 = s := by
  obtain ⟨σ, nb, db, by_, rn, rc, -, -, -, -, -, -, -, -, -, hs⟩ := H
  exact hs
def isLg (y : Nat) : Bool := match mRt y with
  | some .long => true
  | _ => false
theorem isV_i {y : Nat} {v : AV} (hr : isLg y = false) (h : isV y v = true) : ∃ u, v = vI u := by
  unfold isLg at hr
  unfold isV at h
  split at h
  · rename_i e
    rw [e] at hr
    cases hr
  · split at h
    · exact ⟨_, rfl⟩
    · cases h
theorem isV_l {y : Nat} {v : AV} (hr : isLg y = true) (h : isV y v = true) : ∃ u, v = vL u := by
  unfold isLg at hr
  unfold isV at h
  split at h
  · split at h
    · exact ⟨_, rfl⟩
    · cases h
  · rename_i e
    split at hr
    · exact absurd (by assumption) e
    · cases hr
theorem LI.w0 {f c c' : Nat} {s : Nat → Int32} {mr : MR} {mi : MI} {ml ml' : ML} {v : Int32} (H : LI f s c mr mi ml) (hc' : c ≤ c') (e : ∀ a, a < 66 → ml' a = ml a) : LI f s c' mr (u2 mi 48 0 v) ml' := by
  obtain ⟨σ, nb, db, by_, rn, rc, hb, rfl, F, R, M, T, hrc, hc, hf, hs⟩ := H
  refine ⟨σ, nb, db, by_, rn, rc, hb, rfl, F.fr (hbb_of hb) (fun a ha => u2_o _ _ (by omega)) (fun a ha => e a (by omega)), (show FR σ (u2 mi 48 0 v) from R), M.fr F.1.1 rfl rfl rfl (fun a h1 h2 => u2_o _ _ (by omega)) (fun a h1 h2 => e a (by omega)), T.fr rfl rfl rfl (u2_o _ _ (by omega)) (u2_o _ _ (by omega)), ?_, by omega, hf, by rw [u2_o _ _ (by decide)]; exact hs⟩
  rcases hrc with h | h
  · exact Or.inl h
  · exact Or.inr ⟨h.1, h.2.1, by omega⟩
/-- references outside a frame -/
def Sup (f : MR) : Prop := ∀ a k, 67 ≤ a ∨ 64 ≤ k → f a k = none
theorem Sup.u {f : MR} {a k : Nat} {v : RX} (h : Sup f) (ha : Nat.blt a 67 = true) (hk : Nat.blt k 64 = true) : Sup (u2 f a k v) := fun b j hb => by
  have ha : a < 67 := by simpa using ha
  have hk : k < 64 := by simpa using hk
  rw [u2_ne2 _ _ (by omega)]; exact h b j hb
theorem Sup.z {f : MR} {a : Nat} (h : Sup f) : Sup (z2 f a none) := fun b j hb => by
  unfold z2
  split
  · rfl
  · exact h b j hb
theorem Sup.m {f : MR} {c N K : Nat} (h : Sup f) (hc : Nat.blt c 67 = true) (hN : Nat.ble N 64 = true) : Sup (mM f c N K) := fun b j hb => by
  have hc : c < 67 := by simpa using hc
  have hN : N ≤ 64 := by simpa using hN
  unfold mM
  split
  · exact if_neg (show ¬ j < N by omega)
  · unfold zM
    split
    · rfl
    · exact h b j hb
theorem Sup.n : Sup (fun _ _ => none) := fun _ _ _ => rfl
theorem mrt_len : MRt.length ≤ 67 ∧ ∀ r ∈ MRt, r.length ≤ 64 := by decide +kernel
theorem Sup.c0 : Sup MR0 := fun a k h => by
  show (MRt.getD a []).getD k none = none
  have h64 : (MRt.getD a []).length ≤ 64 := by
    rw [List.getD_eq_getElem?_getD]
    cases e : MRt[a]? with
    | none => exact Nat.zero_le _
    | some r => exact mrt_len.2 r (List.mem_of_getElem? e)
  rcases h with h | h
  · rw [List.getD_eq_getElem?_getD (l := MRt), List.getElem?_eq_none (by have := mrt_len.1; omega)]; rfl
  · rw [List.getD_eq_getElem?_getD, List.getElem?_eq_none (by omega)]; rfl
theorem Sup.c {by_ rs : RX} : Sup (MRc 43 5 by_ rs) := (((Sup.c0.u rfl rfl).u rfl rfl).u rfl rfl).u rfl rfl
theorem mr_eq {f g : MR} (hf : Sup f) (hg : Sup g) (h : ∀ a, a < 67 → ∀ k, k < 64 → f a k = g a k) : f = g := by
  funext a k
  by_cases ha : a < 67
  · by_cases hk : k < 64
    · exact h a ha k hk
    · rw [hf a k (by omega), hg a k (by omega)]
  · rw [hf a k (by omega), hg a k (by omega)]
