/-! ===== masks: the class's first colour, a new pivot, the table ===== -/
theorem NW_hi {μ : Nat → Nat} {N i c : Nat} (hμ : ∀ q, q ≤ i → μ q < 2 ^ N) (hc : N ≤ c) (hc31 : c < 31) : NW (vm μ z0 i) (vsS μ z0 i) (psS μ z0 i) c = 0 := by
  have h0 := Piv_ne (mS_ok μ z0 i).1
  refine (NW_ne h0).mpr ?_
  have hs : Sp (vm μ z0 i :: vsS μ z0 i) (fun c => dt (vm μ z0 i :: vsS μ z0 i) (c :: psS μ z0 i)) := Sp_dt (vm μ z0 i :: vsS μ z0 i) [] (psS μ z0 i)
  refine Sp_at (G := fun c => dt (vm μ z0 i :: vsS μ z0 i) (c :: psS μ z0 i)) hs (fun v hv => ?_)
  have key : ∀ q, q ≤ i → vm μ z0 q c = 0 := fun q hq => by
    unfold vm
    rw [if_pos hc31]
    have : bt (μ q) c = 0 := by
      unfold bt
      rw [Nat.div_eq_of_lt (Nat.lt_of_lt_of_le (hμ q hq) (Nat.pow_le_pow_right (by decide) hc))]
    rw [this]; rfl
  rcases List.mem_cons.mp hv with e | e
  · rw [e]; exact key i (Nat.le_refl i)
  · obtain ⟨q, hq, rfl⟩ := List.mem_map.mp e
    exact key q (by have := (mS_ok μ z0 i).2.2.2.2 q hq; omega)
theorem XX_hi {μ : Nat → Nat} {N i c t : Nat} (hμ : ∀ q, q < i → μ q < 2 ^ N) (hc : N ≤ c) (hc31 : c < 31) (ht : t < rk μ i) : XX (vsS μ z0 i) (psS μ z0 i) t c = 0 := by
  obtain ⟨l1, l2, e1, e2, e3⟩ := set_at (psS μ z0 i) ((psS μ z0 i).length - 1 - t) (by unfold rk at ht; omega)
  unfold XX
  rw [e3]
  have hz : dt (vsS μ z0 i) (l1 ++ c :: l2) = 0 := Sp_at (G := fun c => dt (vsS μ z0 i) (l1 ++ c :: l2)) (Sp_dt (vsS μ z0 i) l1 l2) (fun v hv => by
    obtain ⟨q, hq, rfl⟩ := List.mem_map.mp hv
    have hqi := (mS_ok μ z0 i).2.2.2.2 q hq
    show vm μ z0 q c = 0
    unfold vm
    rw [if_pos hc31]
    have : bt (μ q) c = 0 := by
      unfold bt
      rw [Nat.div_eq_of_lt (Nat.lt_of_lt_of_le (hμ q hqi) (Nat.pow_le_pow_right (by decide) hc))]
    rw [this]; rfl)
  rw [hz, Int.mul_zero]
theorem zL_0 {x : Int} (h : x.natAbs ≤ 7484400) : zL x = lN 0 ↔ x = 0 := by rw [lN_z, zL_eq (lR63 (by omega)) (by decide)]; rfl
section
variable {nb db b : Nat} {by_ rs : RX} {c : Nat} {mi mj m : MI} {ml mk : ML} {μ : Nat → Nat} {i : Nat}
/-- the first colour of the new row -/
def pvI : Option Nat → Int32
  | none => -(nI 1)
  | some p => nI p
theorem R_first (hbb : b = 43 ∨ b = 5) {N : Nat} (hN : N ≤ 31) (hn : mi b 0 = nI N) (hμ : ∀ q, q ≤ i → μ q < 2 ^ N) (hi : i < 12) (hr : ∀ q, q < 43 → ml (22 + i) q = zL (NW (vm μ z0 i) (vsS μ z0 i) (psS μ z0 i) q)) {x : Int32} (hx : x = nI i) : Ret m_mt_firstColour [vR 16 0 19, vR 13 0 b, vI x] (some (vI (pvI (pvO μ z0 i)))) c (MRc nb db by_ rs) mi ml mi ml := by
  refine g_mt_firstColour_0 hbb ?_
  cases e : pvO μ z0 i with
  | none =>
    have hz := pv_no e
    have key : ∀ j, j ≤ N → ∀ k : Int32, k = nI j → Go m_mt_firstColour 2 [some (vR 16 0 19), some (vR 13 0 b), some (vI x), some (vI k)] [] (some (vI (pvI none))) c (MRc nb db by_ rs) mi ml mi ml := by
      refine upto ?_ ?_
      · intro k hk
        exact g_mt_firstColour_2 hbb ⟨fun _ => ⟨rfl, rfl, rfl⟩, fun g => absurd (lp_d hn hk) g⟩
      · intro j hj ih k hk
        have z : ml (22 + i) k.toNatClampNeg = lN 0 := by rw [cln hk (by omega), hr j (by omega), hz j (by omega)]; rfl
        exact g_mt_firstColour_2 hbb ⟨fun g => absurd g (lp_g hn hk hj (by omega)), fun _ => ⟨i, hx, hi, ixn hk (by omega) (by decide), fun _ => ih _ (inc hk), fun g => absurd z g⟩⟩
    exact key 0 (Nat.zero_le _) _ rfl
  | some p =>
    obtain ⟨p31, hne, hz⟩ := pv_sp e
    have hpN : p < N := by
      rcases Nat.lt_or_ge p N with g | g
      · exact g
      · exact absurd (NW_hi hμ g p31) hne
    have key : ∀ j, j ≤ p → ∀ k : Int32, k = nI j → Go m_mt_firstColour 2 [some (vR 16 0 19), some (vR 13 0 b), some (vI x), some (vI k)] [] (some (vI (pvI (some p)))) c (MRc nb db by_ rs) mi ml mi ml := by
      refine upto ?_ ?_
      · intro k hk
        have z : ¬ ml (22 + i) k.toNatClampNeg = lN 0 := by
          rw [cln hk (by omega), hr p (by omega), zL_0 (NWb hi (by omega))]; exact hne
        exact g_mt_firstColour_2 hbb ⟨fun g => absurd g (lp_g hn hk hpN (by omega)), fun _ => ⟨i, hx, hi, ixn hk (by omega) (by decide), fun g => absurd g z, fun _ => ⟨by rw [hk]; rfl, rfl, rfl⟩⟩⟩
      · intro j hj ih k hk
        have z : ml (22 + i) k.toNatClampNeg = lN 0 := by rw [cln hk (by omega), hr j (by omega), hz j hj]; rfl
        exact g_mt_firstColour_2 hbb ⟨fun g => absurd g (lp_g hn hk (by omega) (by omega)), fun _ => ⟨i, hx, hi, ixn hk (by omega) (by decide), fun _ => ih _ (inc hk), fun g => absurd z g⟩⟩
    exact key 0 (Nat.zero_le _) _ rfl
theorem CP_neg (hi : i < 12) {x y : Int32} {p : Nat} (hp : p < 43) (hy : y = nI p) : ∀ j, j ≤ 43 → ∀ (k : Int32) (l : ML), k = nI j →
    ∃ l' : ML, (∀ rv mi' ml', Go m_mt_clearPivot 48 [some (vR 16 0 19), some (vI x), some (vI y), some (vR 1 43 (22 + i)), some (vL (l' (22 + i) p)), none, some (vI (nI 0)), none, none, none, none] [] rv c (MRc nb db by_ rs) m l' mi' ml' → Go m_mt_clearPivot 18 [some (vR 16 0 19), some (vI x), some (vI y), some (vR 1 43 (22 + i)), some (vI k), none, none, none, none, none, none] [] rv c (MRc nb db by_ rs) m l mi' ml') ∧ (∀ q, j ≤ q → q < 43 → l' (22 + i) q = -(l (22 + i) q)) ∧ (∀ q, q < j → l' (22 + i) q = l (22 + i) q) ∧ ∀ a, a ≠ 22 + i → l' a = l a := by
  refine upto ?_ ?_
  · intro k l hk
    refine ⟨l, fun rv mi' ml' G => g_mt_clearPivot_18 ⟨fun _ => ⟨ixn hy (by omega) (by decide), ?_⟩, fun g => absurd (by rw [hk]; exact Int32.le_refl _) g⟩, fun q h1 h2 => by omega, fun _ _ => rfl, fun _ _ => rfl⟩
    rw [cln hy (by omega)]; exact G
  · intro j hj ih k l hk
    have ck : k.toNatClampNeg = j := cln hk (by omega)
    have vk : vp_in k 43 := ixn hk (by omega) (by decide)
    obtain ⟨l', q1, q2, q3, q4⟩ := ih (k + nI 1) (u2 l (22 + i) j (-(l (22 + i) j))) (inc hk)
    refine ⟨l', fun rv mi' ml' G => g_mt_clearPivot_18 ⟨fun g => absurd g (by rw [hk, nI_leN (by decide) (by omega)]; omega), fun _ => ⟨vk, vk, ?_⟩⟩, fun q h1 h2 => ?_, fun q hq => ?_, fun a ha => by rw [q4 a ha, u2_o _ _ ha]⟩
    · rw [ck]; exact q1 rv mi' ml' G
    · by_cases e : q = j
      · rw [e, q3 j (by omega), u2_s]
      · rw [q2 q (by omega) h2, u2_ne2 _ _ (Or.inr e)]
    · rw [q3 q (by omega), u2_ne2 _ _ (Or.inr (by omega))]
/-- a row ahead: the new pivot is taken out of it -/
theorem CP_row (hi : i < 12) {h : Nat} (hh : h < i) {S S' X1 : Int} {F G F' : Nat → Int} (hS : 0 < S) (hSb : S ≤ 7484400) (hF : ∀ q, q < 43 → S * F' q = S' * F q - X1 * G q) (hb : ∀ q, q < 43 → (S' * F q - X1 * G q).natAbs < 9223372036854775808) {x y z : Int32} {u v : Int64} (hu : u = zL S') (hv : v = zL X1) : ∀ j, j ≤ 43 → ∀ (k : Int32) (l : ML), k = nI j → l 19 2 = zL S → (∀ q, q < 43 → l (22 + i) q = zL (G q)) → (∀ q, j ≤ q → q < 43 → l (22 + h) q = zL (F q)) → (∀ q, q < j → l (22 + h) q = zL (F' q)) →
    ∃ l' : ML, (∀ rv mi' ml', Go m_mt_clearPivot 48 [some (vR 16 0 19), some (vI x), some (vI y), some (vR 1 43 (22 + i)), some (vL u), none, some (vI (z + nI 1)), none, none, none, none] [] rv c (MRc nb db by_ rs) m l' mi' ml' → Go m_mt_clearPivot 91 [some (vR 16 0 19), some (vI x), some (vI y), some (vR 1 43 (22 + i)), some (vL u), none, some (vI z), some (vR 1 43 (22 + h)), some (vL v), none, some (vI k)] [] rv c (MRc nb db by_ rs) m l mi' ml') ∧ (∀ q, q < 43 → l' (22 + h) q = zL (F' q)) ∧ ∀ a, a ≠ 22 + h → l' a = l a := by
  refine upto ?_ ?_
  · intro k l hk h1 h2 h3 h4
    exact ⟨l, fun rv mi' ml' G => g_mt_clearPivot_91 ⟨fun _ => G, fun g => absurd (by rw [hk]; exact Int32.le_refl _) g⟩, h4, fun _ _ => rfl⟩
  · intro j hj ih k l hk h1 h2 h3 h4
    have ck : k.toNatClampNeg = j := cln hk (by omega)
    have vk : vp_in k 43 := ixn hk (by omega) (by decide)
    have ev : (u * l (22 + h) k.toNatClampNeg - v * l (22 + i) k.toNatClampNeg) / l 19 2 = zL (F' j) := by
      rw [ck, hu, hv, h3 j (by omega) hj, h2 j hj, h1, zL_mul, zL_mul, zL_sub, zL_div (lR63 (hb j hj)) ⟨by omega, by omega⟩, ← hF j hj, Int.mul_tdiv_cancel_left _ (by omega)]
    obtain ⟨l', q1, q2, q3⟩ := ih (k + nI 1) (u2 l (22 + h) j (zL (F' j))) (inc hk) (by rw [u2_o _ _ (by omega)]; exact h1) (fun q hq => by rw [u2_o _ _ (by omega)]; exact h2 q hq) (fun q g1 g2 => by rw [u2_ne2 _ _ (Or.inr (by omega))]; exact h3 q (by omega) g2) (fun q hq => by
      by_cases e : q = j
      · rw [e, u2_s]
      · rw [u2_ne2 _ _ (Or.inr e)]; exact h4 q (by omega))
    refine ⟨l', fun rv mi' ml' G => g_mt_clearPivot_91 ⟨fun g => absurd g (by rw [hk, nI_leN (by decide) (by omega)]; omega), fun _ => ⟨vk, vk, ?_, vk, ?_⟩⟩, q2, fun a ha => by rw [q3 a ha, u2_o _ _ ha]⟩
    · rw [h1]; exact zL_nz ⟨by omega, by omega⟩ (by omega)
    · rw [ev, ck]; exact q1 rv mi' ml' G
end
