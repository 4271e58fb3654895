/-! ===== masks: the class builds its table ===== -/
def z0 : Nat → Int := fun _ => 0
theorem pv_sp {μ : Nat → Nat} {T : Nat → Int} {i p : Nat} (e : pvO μ T i = some p) : p < 31 ∧ NW (vm μ T i) (vsS μ T i) (psS μ T i) p ≠ 0 ∧ ∀ k, k < p → NW (vm μ T i) (vsS μ T i) (psS μ T i) k = 0 := by
  have e0 : fsO (fun c => decide (NW (vm μ T i) (vsS μ T i) (psS μ T i) c ≠ 0)) 31 0 = some p := e
  obtain ⟨g1, g2, g3, g4⟩ := fsO_s 31 0 e0
  exact ⟨by omega, of_decide_eq_true g1, fun k hk => Classical.byContradiction fun z => absurd z (of_decide_eq_false (g4 k (by omega) hk))⟩
theorem pv_no {μ : Nat → Nat} {T : Nat → Int} {i : Nat} (e : pvO μ T i = none) : ∀ k, k < 31 → NW (vm μ T i) (vsS μ T i) (psS μ T i) k = 0 := by
  have e0 : fsO (fun c => decide (NW (vm μ T i) (vsS μ T i) (psS μ T i) c ≠ 0)) 31 0 = none := e
  exact fun k hk => Classical.byContradiction fun z => absurd z (of_decide_eq_false (fsO_n 31 0 e0 k (by omega) (by omega)))
def rk (μ : Nat → Nat) (i : Nat) : Nat := (psS μ z0 i).length
section
variable {μ : Nat → Nat} {i q p t : Nat}
theorem ps_s (h : pvO μ z0 i = some p) : psS μ z0 (i + 1) = p :: psS μ z0 i := by unfold psS; rw [mS_s h]
theorem ps_n (h : pvO μ z0 i = none) : psS μ z0 (i + 1) = psS μ z0 i := by unfold psS; rw [mS_n h]
theorem vs_s (h : pvO μ z0 i = some p) : vsS μ z0 (i + 1) = vm μ z0 i :: vsS μ z0 i := by unfold vsS; rw [mS_s h]; rfl
theorem vs_n (h : pvO μ z0 i = none) : vsS μ z0 (i + 1) = vsS μ z0 i := by unfold vsS; rw [mS_n h]
theorem rk_s (h : pvO μ z0 i = some p) : rk μ (i + 1) = rk μ i + 1 := by unfold rk; rw [ps_s h, List.length_cons]
theorem rk_n (h : pvO μ z0 i = none) : rk μ (i + 1) = rk μ i := by unfold rk; rw [ps_n h]
theorem rk_up (i : Nat) : rk μ i ≤ rk μ (i + 1) := by
  cases h : pvO μ z0 i with
  | none => rw [rk_n h]; exact Nat.le_refl _
  | some p => rw [rk_s h]; omega
theorem rk_le : ∀ d, rk μ q ≤ rk μ (q + d)
  | 0 => Nat.le_refl _
  | d + 1 => Nat.le_trans (rk_le d) (rk_up (q + d))
theorem rk_mono (h : q ≤ i) : rk μ q ≤ rk μ i := by
  have := rk_le (μ := μ) (q := q) (i - q)
  rw [show q + (i - q) = i by omega] at this; exact this
theorem rk_lt (h : q < i) (hp : pvO μ z0 q = some p) : rk μ q < rk μ i := by
  have h1 := rk_s hp
  have h2 := rk_mono (μ := μ) (show q + 1 ≤ i by omega)
  omega
theorem rk_i (i : Nat) : rk μ i ≤ i := by
  have h := mS_ok μ z0 i
  unfold rk; omega
theorem PT_c {ps : List Nat} (ht : t < ps.length) : PT (p :: ps) t = PT ps t := by
  unfold PT
  rw [List.length_cons, show ps.length + 1 - 1 - t = (ps.length - 1 - t) + 1 by omega]; rfl
theorem PT_l {ps : List Nat} : PT (p :: ps) ps.length = p := by
  unfold PT
  rw [List.length_cons, show ps.length + 1 - 1 - ps.length = 0 by omega]; rfl
theorem PT_rk : ∀ i, q < i → pvO μ z0 q = some p → PT (psS μ z0 i) (rk μ q) = p
  | 0, h, _ => absurd h (Nat.not_lt_zero q)
  | i + 1, h, hp => by
    by_cases e : q = i
    · rw [e] at hp ⊢
      rw [ps_s hp]; exact PT_l
    · have ih := PT_rk i (by omega) hp
      cases h2 : pvO μ z0 i with
      | none => rw [ps_n h2]; exact ih
      | some p' => rw [ps_s h2, PT_c (rk_lt (show q < i by omega) hp)]; exact ih
theorem PT_sj : ∀ i t, t < rk μ i → ∃ q, q < i ∧ rk μ q = t ∧ pvO μ z0 q = some (PT (psS μ z0 i) t)
  | 0, t, h => absurd h (Nat.not_lt_zero t)
  | i + 1, t, h => by
    cases h2 : pvO μ z0 i with
    | none =>
      rw [rk_n h2] at h
      obtain ⟨q, g1, g2, g3⟩ := PT_sj i t h
      exact ⟨q, by omega, g2, by rw [ps_n h2]; exact g3⟩
    | some p' =>
      rw [rk_s h2] at h
      by_cases e : t = rk μ i
      · refine ⟨i, by omega, e.symm, ?_⟩
        rw [ps_s h2, e]
        have : PT (p' :: psS μ z0 i) (rk μ i) = p' := PT_l
        rw [this]; exact h2
      · obtain ⟨q, g1, g2, g3⟩ := PT_sj i t (by omega)
        refine ⟨q, by omega, g2, ?_⟩
        have : PT (p' :: psS μ z0 i) t = PT (psS μ z0 i) t := PT_c (show t < rk μ i by omega)
        rw [ps_s h2, this]; exact g3
end
/-- what the table holds when so many masks are in -/
def CMr (μ : Nat → Nat) (i : Nat) (mi : MI) (ml : ML) : Prop := ∀ q, q < i → (∀ p, pvO μ z0 q = some p → mi 34 q = nI p ∧ ∀ c, c < 43 → ml (22 + q) c = zL (XX (vsS μ z0 i) (psS μ z0 i) (rk μ q) c)) ∧ (pvO μ z0 q = none → mi 34 q = -(nI 1) ∧ ∀ c, c < 43 → ml (22 + q) c = zL (NW (vm μ z0 q) (vsS μ z0 q) (psS μ z0 q) c))
def CMs (μ : Nat → Nat) (i : Nat) (mi : MI) (ml : ML) : Prop := ml 19 2 = zL (SS (vsS μ z0 i) (psS μ z0 i)) ∧ mi 19 0 = nI (rk μ i) ∧ CMr μ i mi ml
theorem z0T {K : Nat} : ∀ i, i < K → 0 ≤ z0 i ∧ z0 i ≤ 309969 := fun i _ => ⟨Int.le_refl _, by unfold z0; decide⟩
theorem vm_okR {μ : Nat → Nat} {i : Nat} : okR (vm μ z0 i :: vsS μ z0 i) := fun u hu q' => by
  rcases List.mem_cons.mp hu with e | e
  · rw [e]; exact vm_bd (z0T (K := i + 1) i (by omega)) q'
  · exact vsS_ok (K := i) z0T (Nat.le_refl i) u e q'
theorem ps43 {μ : Nat → Nat} {i : Nat} : ∀ q ∈ psS μ z0 i, q < 43 := fun q hq => by have := (mS_ok μ z0 i).2.2.2.1 q hq; omega
theorem SSb {μ : Nat → Nat} {i : Nat} (hi : i ≤ 12) : 0 < SS (vsS μ z0 i) (psS μ z0 i) ∧ SS (vsS μ z0 i) (psS μ z0 i) ≤ 7484400 := by
  have h := mS_ok μ z0 i
  have h1 := SS_bd (vsS_ok (K := i) z0T (Nat.le_refl i)) (ps43 (μ := μ)) h.2.1
  have h2 := bb_12 (vsS μ z0 i).length (by omega)
  exact ⟨SS_pos (Piv_ne h.1), by omega⟩
theorem XXb {μ : Nat → Nat} {i t : Nat} (hi : i ≤ 12) (ht : t < rk μ i) {c : Nat} (hc : c < 43) : (XX (vsS μ z0 i) (psS μ z0 i) t c).natAbs ≤ 7484400 := by
  have h := mS_ok μ z0 i
  have h1 := XX_bd (vsS_ok (K := i) z0T (Nat.le_refl i)) (ps43 (μ := μ)) h.2.1 ht c
  have h2 := bb_12 (vsS μ z0 i).length (by omega)
  rw [wt_lo hc] at h1
  omega
theorem NWb {μ : Nat → Nat} {i : Nat} (hi : i < 12) {c : Nat} (hc : c < 43) : (NW (vm μ z0 i) (vsS μ z0 i) (psS μ z0 i) c).natAbs ≤ 7484400 := by
  have h := mS_ok μ z0 i
  have h1 := NW_bd (vm_okR (μ := μ) (i := i)) (ps43 (μ := μ)) h.2.1 c
  have h2 := bb_12 ((vsS μ z0 i).length + 1) (by omega)
  rw [wt_lo hc] at h1
  omega
section
variable {nb db b : Nat} {by_ rs : RX} {c : Nat} {mi mj m : MI} {ml mk : ML} {μ : Nat → Nat} {i : Nat}
theorem LD1 (hbb : b = 43 ∨ b = 5) (hμ : μ i < 2 ^ 31) (hi : i < 12) {S : Int} {x y : Int32} (hx : x = nI i) (hy : y = nI (μ i)) : ∀ j, j ≤ 43 → ∀ (k : Int32) (l : ML), k = nI j → l 19 2 = zL S → (∀ q, q < j → l (22 + i) q = zL (S * vm μ z0 i q)) →
    ∃ l' : ML, (∀ rv mi' ml', Go m_mt_load 93 [some (vR 16 0 19), some (vR 13 0 b), some (vI x), some (vR 1 43 (22 + i)), some (vI y), some (vI (nI 0)), none] [] rv c (MRc nb db by_ rs) m l' mi' ml' → Go m_mt_load 18 [some (vR 16 0 19), some (vR 13 0 b), some (vI x), some (vR 1 43 (22 + i)), some (vI y), some (vI k), none] [] rv c (MRc nb db by_ rs) m l mi' ml') ∧ (∀ q, q < 43 → l' (22 + i) q = zL (S * vm μ z0 i q)) ∧ ∀ a, a ≠ 22 + i → l' a = l a := by
  refine upto ?_ ?_
  · intro k l hk h2 h1
    exact ⟨l, fun rv mi' ml' G => g_mt_load_18 hbb ⟨fun _ => G, fun g => absurd (by rw [hk]; exact Int32.le_refl _) g⟩, h1, fun _ _ => rfl⟩
  · intro j hj ih k l hk h2 h1
    have ng : ¬ nI 43 ≤ k := by rw [hk, nI_leN (by decide) (by omega)]; omega
    have ck : k.toNatClampNeg = j := cln hk (by omega)
    have vk : vp_in k 43 := ixn hk (by omega) (by decide)
    have step : ∀ w : Int64, w = zL (S * vm μ z0 i j) → ∃ l' : ML, (∀ rv mi' ml', Go m_mt_load 93 [some (vR 16 0 19), some (vR 13 0 b), some (vI x), some (vR 1 43 (22 + i)), some (vI y), some (vI (nI 0)), none] [] rv c (MRc nb db by_ rs) m l' mi' ml' → Go m_mt_load 18 [some (vR 16 0 19), some (vR 13 0 b), some (vI x), some (vR 1 43 (22 + i)), some (vI y), some (vI (k + nI 1)), none] [] rv c (MRc nb db by_ rs) m (u2 l (22 + i) k.toNatClampNeg w) mi' ml') ∧ (∀ q, q < 43 → l' (22 + i) q = zL (S * vm μ z0 i q)) ∧ ∀ a, a ≠ 22 + i → l' a = l a := by
      intro w hw
      rw [ck]
      obtain ⟨l', q1, q2, q3⟩ := ih (k + nI 1) (u2 l (22 + i) j w) (inc hk) (by rw [u2_o _ _ (by omega)]; exact h2) (fun q hq => by
        by_cases e : q = j
        · rw [e, u2_s]; exact hw
        · rw [u2_ne2 _ _ (Or.inr e)]; exact h1 q (by omega))
      exact ⟨l', q1, q2, fun a ha => by rw [q3 a ha, u2_o _ _ ha]⟩
    have e0 : lN 0 = zL (S * 0) := by rw [Int.mul_zero]; rfl
    have e1 : l 19 2 = zL (S * 1) := by rw [Int.mul_one]; exact h2
    by_cases h31 : j < 31
    · have n31 : ¬ nI 31 ≤ k := by rw [hk, nI_leN (by decide) (by omega)]; omega
      have ev : vm μ z0 i j = (bt (μ i) j : Int) := by unfold vm; rw [if_pos h31]
      have eb := bit_i hy hk hμ (show j < 32 by omega)
      rcases bt_01 (μ i) j with z | z
      · obtain ⟨l', q1, q2⟩ := step (lN 0) (by rw [ev, z]; exact e0)
        refine ⟨l', fun rv mi' ml' G => g_mt_load_18 hbb ⟨fun g => absurd g ng, fun _ => ⟨fun g => absurd g n31, fun _ => ⟨fun _ => ⟨vk, q1 rv mi' ml' G⟩, fun g => ?_⟩⟩⟩, q2⟩
        rw [eb, z] at g; exact absurd g (by decide)
      · obtain ⟨l', q1, q2⟩ := step (l 19 2) (by rw [ev, z]; exact e1)
        refine ⟨l', fun rv mi' ml' G => g_mt_load_18 hbb ⟨fun g => absurd g ng, fun _ => ⟨fun g => absurd g n31, fun _ => ⟨fun g => ?_, fun _ => ⟨vk, q1 rv mi' ml' G⟩⟩⟩⟩, q2⟩
        rw [eb, z] at g; exact absurd rfl g
    · have y31 : nI 31 ≤ k := by rw [hk, nI_leN (by decide) (by omega)]; omega
      have ev : vm μ z0 i j = if j = 31 + i then 1 else 0 := by unfold vm; rw [if_neg h31, if_pos hj]
      have e31 : nI 31 + x = nI (31 + i) := by rw [hx, nI_add]
      by_cases e : j = 31 + i
      · obtain ⟨l', q1, q2⟩ := step (l 19 2) (by rw [ev, if_pos e]; exact e1)
        exact ⟨l', fun rv mi' ml' G => g_mt_load_18 hbb ⟨fun g => absurd g ng, fun _ => ⟨fun _ => ⟨fun g => absurd (by rw [hk, e31, e]) g, fun _ => ⟨vk, q1 rv mi' ml' G⟩⟩, fun g => absurd y31 g⟩⟩, q2⟩
      · obtain ⟨l', q1, q2⟩ := step (lN 0) (by rw [ev, if_neg e]; exact e0)
        have hne : ¬ k = nI 31 + x := by rw [hk, e31, nI_eq (by omega) (by omega)]; exact e
        exact ⟨l', fun rv mi' ml' G => g_mt_load_18 hbb ⟨fun g => absurd g ng, fun _ => ⟨fun _ => ⟨fun _ => ⟨vk, q1 rv mi' ml' G⟩, fun g => absurd g hne⟩, fun g => absurd y31 g⟩⟩, q2⟩
theorem LD3 (hbb : b = 43 ∨ b = 5) (hi : i < 12) {h : Nat} (hh : h < i) {x y z : Int32} (hz : z = nI h) : ∀ j, j ≤ 43 → ∀ (k : Int32) (l : ML), k = nI j →
    ∃ l' : ML, (∀ rv mi' ml', Go m_mt_load 93 [some (vR 16 0 19), some (vR 13 0 b), some (vI x), some (vR 1 43 (22 + i)), some (vI y), some (vI (z + nI 1)), none] [] rv c (MRc nb db by_ rs) m l' mi' ml' → Go m_mt_load 128 [some (vR 16 0 19), some (vR 13 0 b), some (vI x), some (vR 1 43 (22 + i)), some (vI y), some (vI z), some (vI k)] [] rv c (MRc nb db by_ rs) m l mi' ml') ∧ (∀ q, j ≤ q → q < 43 → l' (22 + i) q = l (22 + i) q - l (22 + h) q) ∧ (∀ q, q < j → l' (22 + i) q = l (22 + i) q) ∧ ∀ a, a ≠ 22 + i → l' a = l a := by
  refine upto ?_ ?_
  · intro k l hk
    exact ⟨l, fun rv mi' ml' G => g_mt_load_128 hbb ⟨fun _ => G, fun g => absurd (by rw [hk]; exact Int32.le_refl _) g⟩, fun q h1 h2 => by omega, fun _ _ => rfl, fun _ _ => rfl⟩
  · intro j hj ih k l hk
    have ck : k.toNatClampNeg = j := cln hk (by omega)
    have vk : vp_in k 43 := ixn hk (by omega) (by decide)
    obtain ⟨l', q1, q2, q3, q4⟩ := ih (k + nI 1) (u2 l (22 + i) j (l (22 + i) j - l (22 + h) j)) (inc hk)
    refine ⟨l', fun rv mi' ml' G => g_mt_load_128 hbb ⟨fun g => absurd g (by rw [hk, nI_leN (by decide) (by omega)]; omega), fun _ => ⟨vk, h, hz, by omega, vk, vk, ?_⟩⟩, fun q h1 h2 => ?_, fun q hq => ?_, fun a ha => by rw [q4 a ha, u2_o _ _ ha]⟩
    · rw [ck]; exact q1 rv mi' ml' G
    · by_cases e : q = j
      · rw [e, q3 j (by omega), u2_s]
      · rw [q2 q (by omega) h2, u2_ne2 _ _ (Or.inr e), u2_o _ _ (by omega)]
    · rw [q3 q (by omega), u2_ne2 _ _ (Or.inr (by omega))]
theorem R_load (hbb : b = 43 ∨ b = 5) (hμ : μ i < 2 ^ 31) (hi : i < 12) (hm : mi (b + 4) i = nI (μ i)) (H : CMs μ i mi ml) {x : Int32} (hx : x = nI i) : ∃ l' : ML, Ret m_mt_load [vR 16 0 19, vR 13 0 b, vI x] none c (MRc nb db by_ rs) mi ml mi l' ∧ (∀ q, q < 43 → l' (22 + i) q = zL (NW (vm μ z0 i) (vsS μ z0 i) (psS μ z0 i) q)) ∧ ∀ a, a ≠ 22 + i → l' a = ml a := by
  obtain ⟨H1, -, H3⟩ := H
  have cx : x.toNatClampNeg = i := cln hx (by omega)
  obtain ⟨l1, a1, a2, a3⟩ := LD1 (nb := nb) (db := db) (by_ := by_) (rs := rs) (c := c) (m := mi) hbb hμ hi hx (y := nI (μ i)) rfl 0 (by omega) (nI 0) ml rfl H1 (fun q hq => by omega)
  have key : ∀ h, h ≤ i → ∀ (z : Int32) (l : ML), z = nI h → (∀ q, q < 43 → l (22 + i) q = zL (PP (vm μ z0 i) (vsS μ z0 i) (psS μ z0 i) (rk μ h) q)) → (∀ a, a ≠ 22 + i → l a = ml a) → ∃ l' : ML, Go m_mt_load 93 [some (vR 16 0 19), some (vR 13 0 b), some (vI x), some (vR 1 43 (22 + i)), some (vI (nI (μ i))), some (vI z), none] [] none c (MRc nb db by_ rs) mi l mi l' ∧ (∀ q, q < 43 → l' (22 + i) q = zL (NW (vm μ z0 i) (vsS μ z0 i) (psS μ z0 i) q)) ∧ ∀ a, a ≠ 22 + i → l' a = ml a := by
    refine upto ?_ ?_
    · intro z l hz h1 h2
      exact ⟨l, g_mt_load_93 hbb ⟨fun _ => ⟨rfl, rfl, rfl⟩, fun g => absurd (by rw [hx, hz]; exact Int32.le_refl _) g⟩, fun q hq => by rw [h1 q hq]; exact congrArg zL (PP_n _ _ _ _), h2⟩
    · intro h hh ih z l hz h1 h2
      have cz : z.toNatClampNeg = h := cln hz (by omega)
      have vz : vp_in z 12 := ixn hz (by omega) (by decide)
      have ng : ¬ x ≤ z := by rw [hx, hz, nI_leN (by omega) (by omega)]; omega
      cases e : pvO μ z0 h with
      | none =>
        obtain ⟨f1, -⟩ := (H3 h hh).2 e
        obtain ⟨l', q1, q2, q3⟩ := ih (z + nI 1) l (inc hz) (fun q hq => by rw [rk_n e]; exact h1 q hq) h2
        exact ⟨l', g_mt_load_93 hbb ⟨fun g => absurd g ng, fun _ => ⟨vz, fun _ => q1, fun g => absurd (by rw [cz, f1]; decide) g⟩⟩, q2, q3⟩
      | some p =>
        obtain ⟨f1, f2⟩ := (H3 h hh).1 p e
        have hp31 : p < 31 := by
          exact (pv_sp e).1
        have npv : ¬ mi 34 z.toNatClampNeg < 0 := by
          rw [cz, f1]
          exact fun g => absurd ((nI_ltI (by omega) (by decide)).mp (show nI p < nI 0 from g)) (by omega)
        have ept : PT (psS μ z0 i) (rk μ h) = p := PT_rk i hh e
        have evp : vm μ z0 i p = (bt (μ i) p : Int) := by unfold vm; rw [if_pos hp31]
        have eb : (nI (μ i) >>> (mi 34 z.toNatClampNeg &&& 31)) &&& nI 1 = nI (bt (μ i) p) := by rw [cz, f1]; exact bit_i rfl rfl hμ (by omega)
        rcases bt_01 (μ i) p with zb | zb
        · obtain ⟨l', q1, q2, q3⟩ := ih (z + nI 1) l (inc hz) (fun q hq => by
            rw [rk_s e, PP_s, ept, evp, zb, h1 q hq]
            congr 1
            show _ = _ - ((0 : Nat) : Int) * _
            simp) h2
          refine ⟨l', g_mt_load_93 hbb ⟨fun g => absurd g ng, fun _ => ⟨vz, fun g => absurd g npv, fun _ => ⟨vz, fun _ => q1, fun g => ?_⟩⟩⟩, q2, q3⟩
          rw [eb, zb] at g; exact absurd g (by decide)
        · obtain ⟨l1', w1, w2, -, w4⟩ := LD3 (nb := nb) (db := db) (by_ := by_) (rs := rs) (c := c) (m := mi) (x := x) (y := nI (μ i)) hbb hi hh hz 0 (by omega) (nI 0) l rfl
          obtain ⟨l', q1, q2, q3⟩ := ih (z + nI 1) l1' (inc hz) (fun q hq => by
            rw [w2 q (by omega) hq, h1 q hq, h2 (22 + h) (by omega), f2 q hq, zL_sub, rk_s e, PP_s, ept, evp, zb]
            congr 1
            show _ = _ - ((1 : Nat) : Int) * _
            simp) (fun a ha => by rw [w4 a ha]; exact h2 a ha)
          refine ⟨l', g_mt_load_93 hbb ⟨fun g => absurd g ng, fun _ => ⟨vz, fun g => absurd g npv, fun _ => ⟨vz, fun g => ?_, fun _ => w1 _ _ _ q1⟩⟩⟩, q2, q3⟩
          rw [eb, zb] at g; exact absurd rfl g
  obtain ⟨l', p1, p2, p3⟩ := key 0 (by omega) (nI 0) l1 rfl (fun q hq => by rw [a2 q hq]; exact congrArg zL (PP_0 _ _ _ _).symm) a3
  refine ⟨l', g_mt_load_0 hbb ⟨i, hx, hi, ixn hx (by omega) (by decide), ?_⟩, p2, p3⟩
  rw [cx, hm]
  exact a1 _ _ _ p1
end
