/-! ===== suspects: the reference ===== -/
theorem half_iff {B h : Int} (hh : 0 < h) : ((B * h).tmod (2 * h) = 0 ↔ B.tmod 2 = 0) ∧ (B.tmod 2 = 0 → (B * h).tdiv (2 * h) = B.tdiv 2) := by
  have key : B.tmod 2 = 0 → B * h = (2 * h) * B.tdiv 2 := fun h2 => by
    have := td_m h2
    generalize B.tdiv 2 = w at this ⊢
    rw [this, Int.mul_assoc, Int.mul_assoc, Int.mul_comm w h]
  refine ⟨⟨fun h1 => ?_, fun h2 => ?_⟩, fun h2 => ?_⟩
  · have e := td_m h1
    generalize (B * h).tdiv (2 * h) = v at e
    have e2 : h * B = h * (2 * v) := by rw [Int.mul_comm h B, e, Int.mul_comm 2 h, Int.mul_assoc]
    have := mulc (by omega) e2
    rw [this, Int.mul_tmod_right]
  · rw [key h2, Int.mul_tmod_right]
  · rw [key h2, Int.mul_tdiv_cancel_left _ (by omega)]
theorem T_even {σ : SG} (hW : WF σ) (hr : σ 0 0 = 1) : ∃ h : Int, 0 < h ∧ σ 0 5 + 1 = 2 * h := by
  have hb := hW.bn hr
  simp only [bnOK, Bool.or_eq_true, Bool.and_eq_true, beq_iff_eq] at hb
  exact ⟨(σ 0 5 + 1) / 2, by omega, by omega⟩
def F61 (mk m : ML) : Prop := ∀ a, a ≠ 61 → m a = mk a
/-- what the reference's bits come to -/
theorem bits_r {q : Nat} {o s : Int32} (hq : (q = 0 ∧ o = nI 0 ∧ s = nI 0) ∨ (q % 2 = 1 ∧ (q - 1) / 2 < 31 ∧ o = nI (2 ^ ((q - 1) / 2)) ∧ s = nI 0) ∨ (q ≠ 0 ∧ q % 2 = 0 ∧ (q - 1) / 2 < 31 ∧ o = nI 0 ∧ s = nI (2 ^ ((q - 1) / 2)))) {z : Nat} (hz31 : z < 2 ^ 31) : ∃ t : Nat, t < 2 ^ 31 ∧ (nI z ||| o) &&& (s ^^^ -(nI 1)) = nI t ∧ ∀ k, k < 32 → bt t k = bQ q z k := by
  rw [m1_eq]
  rcases hq with ⟨h1, h2, h3⟩ | ⟨h1, hj, h2, h3⟩ | ⟨h0, h1, hj, h2, h3⟩
  · refine ⟨z, hz31, ?_, fun k _ => ?_⟩
    · rw [h2, h3, nI_xor, nI_or, nI_and]
      congr 1
      rw [Nat.zero_xor, Nat.or_zero, Nat.and_two_pow_sub_one_eq_mod, Nat.mod_eq_of_lt (by omega)]
    · unfold bQ; rw [if_pos h1]
  · have hl : z ||| 2 ^ ((q - 1) / 2) < 2 ^ 31 := Nat.or_lt_two_pow hz31 (p2_lt hj)
    refine ⟨z ||| 2 ^ ((q - 1) / 2), hl, ?_, fun k _ => bq_open h1 rfl⟩
    rw [h2, h3, nI_xor, nI_or, nI_and]
    congr 1
    rw [Nat.zero_xor, Nat.and_two_pow_sub_one_eq_mod, Nat.mod_eq_of_lt (by omega)]
  · refine ⟨z &&& (2 ^ ((q - 1) / 2) ^^^ (2 ^ 32 - 1)), Nat.lt_of_le_of_lt Nat.and_le_left hz31, ?_, fun k hk => bq_shut h0 (by omega) rfl hk⟩
    rw [h2, h3, nI_xor, nI_or, nI_and, Nat.or_zero]
section
variable {nb db b : Nat} {by_ rs : RX} {c : Nat} {σ : SG} {mi mj : MI} {ml mk : ML} {x j : Int32}
/-- what the reference asks for -/
def SR (σ : SG) (mj : MI) : Prop := RK σ mj ∧ los σ = 0 ∧ mj 48 43 = zI (σ 0 11) ∧ RMl σ mj ∧ ∀ i : Nat, (i : Int) < σ 0 11 → (0 ≤ σ 5 i ∧ σ 5 i < 2147483648) ∧ 0 ≤ σ 6 i ∧ σ 6 i ≤ 310968
theorem R_supposes (S : SR σ mj) {k : Nat} (hx : x = nI k) (hk : (k : Int) < σ 0 5) {u : Int} (hu : -200000000000 ≤ u ∧ u ≤ 200000000000) {a : Int64} (ea : a = zL u) : (u.tmod (σ 0 5 + 1) = 0 ∧ Ret m_r_supposes [vR 19 0 48, vI x, vL a] (some (vI (nI 1))) c (MRc nb db by_ rs) mj mk mj (u2 mk 61 k (zL (u.tdiv (σ 0 5 + 1))))) ∨ (¬ u.tmod (σ 0 5 + 1) = 0 ∧ Ret m_r_supposes [vR 19 0 48, vI x, vL a] (some (vI (nI 0))) c (MRc nb db by_ rs) mj mk mj (u2 mk 61 k (zL (u.tdiv (σ 0 5 + 1))))) := by
  obtain ⟨⟨hW, hs, -⟩, -⟩ := S
  have nd := hW.nn
  have en := hs.nL hW
  have h31 := InK.n31 hW hk
  have n0 : ¬ (mj 48 5).toInt64 + lN 1 = 0 := by rw [en]; exact zL_nz ⟨by omega, by omega⟩ (by omega)
  have br := tmod_b (d := σ 0 5 + 1) hu
  have eq : a / ((mj 48 5).toInt64 + lN 1) = zL (u.tdiv (σ 0 5 + 1)) := by rw [ea, en, zL_div ⟨by omega, by omega⟩ ⟨by omega, by omega⟩]
  have er : rmL a ((mj 48 5).toInt64 + lN 1) = lN 0 ↔ u.tmod (σ 0 5 + 1) = 0 := by
    rw [ea, en, zL_rem ⟨by omega, by omega⟩ ⟨by omega, by omega⟩, lN_z, zL_eq ⟨by omega, by omega⟩ (by decide)]; rfl
  by_cases h : u.tmod (σ 0 5 + 1) = 0
  · exact Or.inl ⟨h, g_r_supposes_0 ⟨n0, ixn hx (by omega) (by decide), n0, fun g => absurd (er.mpr h) g, fun _ => ⟨rfl, rfl, by rw [cln hx (by omega), eq]⟩⟩⟩
  · exact Or.inr ⟨h, g_r_supposes_0 ⟨n0, ixn hx (by omega) (by decide), n0, fun _ => ⟨rfl, rfl, by rw [cln hx (by omega), eq]⟩, fun g => absurd (er.mp g) h⟩⟩
/-- a row of guesses, with a flag -/
theorem sup_loop {n : Nat} {G : Nat → Int32 → ML → Int32 → ML → Prop} {p : Nat → Prop} {v : Nat → Int64} (h0 : ∀ f m, (f = nI 0 ∨ f = nI 1) → G n f m f m) (ht : ∀ k m f r m', k < n → (f = nI 0 ∨ f = nI 1) → p k → G (k + 1) f (u2 m 61 k (v k)) r m' → G k f m r m') (hf : ∀ k m f r m', k < n → (f = nI 0 ∨ f = nI 1) → ¬ p k → G (k + 1) (nI 0) (u2 m 61 k (v k)) r m' → G k f m r m') :
    ∀ j, j ≤ n → ∀ f m, (f = nI 0 ∨ f = nI 1) → ∃ m', F61 m m' ∧ (∀ k, k < j → m' 61 k = m 61 k) ∧ (∀ k, j ≤ k → k < n → m' 61 k = v k) ∧ (((f = nI 1 ∧ ∀ k, j ≤ k → k < n → p k) ∧ G j f m (nI 1) m') ∨ (¬ (f = nI 1 ∧ ∀ k, j ≤ k → k < n → p k) ∧ G j f m (nI 0) m')) := by
  refine upto ?_ ?_
  · intro f m hf1
    refine ⟨m, fun _ _ => rfl, fun _ _ => rfl, fun k h1 h2 => by omega, ?_⟩
    rcases hf1 with h | h
    · subst h
      exact Or.inr ⟨fun z => absurd z.1 (by decide), h0 _ m (Or.inl rfl)⟩
    · subst h
      exact Or.inl ⟨⟨rfl, fun k h1 h2 => by omega⟩, h0 _ m (Or.inr rfl)⟩
  · intro j hj ih f m hf1
    have back : ∀ m', F61 (u2 m 61 j (v j)) m' → (∀ k, k < j + 1 → m' 61 k = u2 m 61 j (v j) 61 k) → (∀ k, j + 1 ≤ k → k < n → m' 61 k = v k) → F61 m m' ∧ (∀ k, k < j → m' 61 k = m 61 k) ∧ (∀ k, j ≤ k → k < n → m' 61 k = v k) := by
      intro m' a1 a2 a3
      refine ⟨fun a ha => by rw [a1 a ha, u2_o _ _ ha], fun k hk => by rw [a2 k (by omega), u2_ne2 _ _ (Or.inr (by omega))], fun k h1 h2 => ?_⟩
      rcases Nat.lt_or_ge j k with z | z
      · exact a3 k (by omega) h2
      · rw [show k = j by omega, a2 j (by omega), u2_s]
    have pall : p j → ((f = nI 1 ∧ ∀ k, j ≤ k → k < n → p k) ↔ (f = nI 1 ∧ ∀ k, j + 1 ≤ k → k < n → p k)) := fun hp => ⟨fun h => ⟨h.1, fun k h1 h2 => h.2 k (by omega) h2⟩, fun h => ⟨h.1, fun k h1 h2 => by
      rcases Nat.lt_or_ge j k with z | z
      · exact h.2 k (by omega) h2
      · rw [show k = j by omega]; exact hp⟩⟩
    by_cases hp : p j
    · obtain ⟨m', a1, a2, a3, a4⟩ := ih f (u2 m 61 j (v j)) hf1
      obtain ⟨b1, b2, b3⟩ := back m' a1 a2 a3
      rcases a4 with ⟨c1, c2⟩ | ⟨c1, c2⟩
      · exact ⟨m', b1, b2, b3, Or.inl ⟨(pall hp).mpr c1, ht j m f _ m' hj hf1 hp c2⟩⟩
      · exact ⟨m', b1, b2, b3, Or.inr ⟨fun z => c1 ((pall hp).mp z), ht j m f _ m' hj hf1 hp c2⟩⟩
    · obtain ⟨m', a1, a2, a3, a4⟩ := ih (nI 0) (u2 m 61 j (v j)) (Or.inl rfl)
      obtain ⟨b1, b2, b3⟩ := back m' a1 a2 a3
      rcases a4 with ⟨c1, c2⟩ | ⟨c1, c2⟩
      · exact absurd c1.1 (by decide)
      · exact ⟨m', b1, b2, b3, Or.inr ⟨fun z => hp (z.2 j (by omega) hj), hf j m f _ m' hj hf1 hp c2⟩⟩
theorem f01 {f : Int32} (h : f = nI 0 ∨ f = nI 1) : f = 0 ∨ f = 1 := h
theorem M_fine (S : SR σ mj) : ∃ m', F61 mk m' ∧ (∀ k : Nat, (k : Int) < σ 0 5 → m' 61 k = zL (xB σ k)) ∧ (((∀ k : Nat, (k : Int) < σ 0 5 → (backZ σ k).tmod (σ 0 5 + 1) = 0) ∧ Ret m_r_supposesFine [vR 19 0 48] (some (vI (nI 1))) c (MRc nb db by_ rs) mj mk mj m') ∨ ((¬ ∀ k : Nat, (k : Int) < σ 0 5 → (backZ σ k).tmod (σ 0 5 + 1) = 0) ∧ Ret m_r_supposesFine [vR 19 0 48] (some (vI (nI 0))) c (MRc nb db by_ rs) mj mk mj m')) := by
  have S' := S
  obtain ⟨K, -⟩ := S
  have K' := K
  obtain ⟨hW, hs, -⟩ := K
  obtain ⟨n, hn, h31⟩ := wf_n hW
  have h0 := hs.n hn
  obtain ⟨m', a1, -, a3, a4⟩ := sup_loop (n := n) (G := fun k f m r m' => ∀ i, i = nI k → Go m_r_supposesFine 4 [some (vR 19 0 48), some (vI f), some (vI i)] [] (some (vI r)) c (MRc nb db by_ rs) mj m mj m') (p := fun k => (backZ σ k).tmod (σ 0 5 + 1) = 0) (v := fun k => zL (xB σ k))
    (fun f m hf i hi => g_r_supposesFine_4 ⟨fun _ => ⟨f01 hf, rfl, rfl, rfl⟩, fun h => absurd (lp_d h0 hi) h⟩)
    (fun k m f r m' hk hf hp G i hi => by
      have bb := back_bd hW k
      rcases R_supposes (nb := nb) (db := db) (by_ := by_) (rs := rs) (c := c) (mk := m) S' hi (by omega) (u := backZ σ k) ⟨by omega, by omega⟩ rfl with ⟨-, R⟩ | ⟨z, -⟩
      · refine g_r_supposesFine_4 ⟨fun h => absurd h (lp_g h0 hi hk (by omega)), fun _ => ⟨_, R_partsOf K' hi (by omega), _, _, _, R, fun g => absurd g n10, fun _ => ⟨fun g => ?_, fun g => ?_⟩⟩⟩
        · rcases hf with hf | hf
          · have := G _ (inc hi); rw [hf] at this; exact this
          · rw [hf] at g; exact absurd g n10
        · rcases hf with hf | hf
          · rw [hf] at g; exact absurd rfl g
          · have := G _ (inc hi); rw [hf] at this; exact this
      · exact absurd hp z)
    (fun k m f r m' hk hf hp G i hi => by
      have bb := back_bd hW k
      rcases R_supposes (nb := nb) (db := db) (by_ := by_) (rs := rs) (c := c) (mk := m) S' hi (by omega) (u := backZ σ k) ⟨by omega, by omega⟩ rfl with ⟨z, -⟩ | ⟨-, R⟩
      · exact absurd z hp
      · exact g_r_supposesFine_4 ⟨fun h => absurd h (lp_g h0 hi hk (by omega)), fun _ => ⟨_, R_partsOf K' hi (by omega), _, _, _, R, fun _ => G _ (inc hi), fun g => absurd rfl g⟩⟩)
    0 (by omega) (nI 1) mk (Or.inr rfl)
  refine ⟨m', a1, fun k hk => a3 k (by omega) (by omega), ?_⟩
  rcases a4 with ⟨c1, c2⟩ | ⟨c1, c2⟩
  · exact Or.inl ⟨fun k hk => c1.2 k (by omega) (by omega), g_r_supposesFine_0 (c2 _ rfl)⟩
  · exact Or.inr ⟨fun z => c1 ⟨rfl, fun k h1 h2 => z k (by omega)⟩, g_r_supposesFine_0 (c2 _ rfl)⟩
def dvO (σ : SG) (j k : Nat) : Prop := if k = j then (backZ σ k).tmod 2 = 0 else (backZ σ k - backZ σ j).tmod (σ 0 5 + 1) = 0
theorem M_open (S : SR σ mj) {j : Nat} (hx : x = nI j) (hj : (j : Int) < σ 0 5) : ∃ m', F61 mk m' ∧ (((∀ k : Nat, (k : Int) < σ 0 5 → dvO σ j k) ∧ (∀ k : Nat, (k : Int) < σ 0 5 → m' 61 k = zL (xO σ j k)) ∧ Ret m_r_supposesOpen [vR 19 0 48, vI x] (some (vI (nI 1))) c (MRc nb db by_ rs) mj mk mj m') ∨ ((¬ ∀ k : Nat, (k : Int) < σ 0 5 → dvO σ j k) ∧ Ret m_r_supposesOpen [vR 19 0 48, vI x] (some (vI (nI 0))) c (MRc nb db by_ rs) mj mk mj m')) := by
  have S' := S
  obtain ⟨K, -⟩ := S
  have K' := K
  obtain ⟨hW, hs, -, hr, -⟩ := K
  obtain ⟨n, hn, h31⟩ := wf_n hW
  have nd := hW.nn
  have h0 := hs.n hn
  obtain ⟨h, hh, eh⟩ := T_even hW hr
  have e2 : ((mj 48 5).toInt64 + lN 1) / lN 2 = zL h := by
    rw [hs.nL hW, show lN 2 = zL 2 from rfl, zL_div ⟨by omega, by omega⟩ (by decide), eh, Int.mul_tdiv_cancel_left _ (by decide)]
  have bj := back_bd hW j
  have bh : -200000000000 ≤ backZ σ j * h ∧ backZ σ j * h ≤ 200000000000 := by
    constructor
    · calc (-200000000000 : Int) ≤ -1830006198 * 16 := by decide
        _ ≤ -1830006198 * h := Int.mul_le_mul_of_nonpos_left (by omega) (by omega)
        _ ≤ backZ σ j * h := Int.mul_le_mul_of_nonneg_right (by omega) (by omega)
    · calc backZ σ j * h ≤ 1830006198 * h := Int.mul_le_mul_of_nonneg_right (by omega) (by omega)
        _ ≤ 200000000000 := by omega
  have hi2 := half_iff (B := backZ σ j) hh
  rw [← eh] at hi2
  have hne : ∀ {k : Nat} {i : Int32}, k < n → i = nI k → (i = x ↔ k = j) := fun hk hi => by
    rw [hi, hx, nI_eq (by omega) (by omega)]
  obtain ⟨m', a1, -, a3, a4⟩ := sup_loop (n := n) (G := fun k f m r m' => ∀ i, i = nI k → Go m_r_supposesOpen 4 [some (vR 19 0 48), some (vI x), some (vI f), some (vI i), none, none] [] (some (vI r)) c (MRc nb db by_ rs) mj m mj m') (p := dvO σ j) (v := fun k => zL (if k = j then (backZ σ j * h).tdiv (σ 0 5 + 1) else (backZ σ k - backZ σ j).tdiv (σ 0 5 + 1)))
    (fun f m hf i hi => g_r_supposesOpen_4 ⟨fun _ => ⟨f01 hf, rfl, rfl, rfl⟩, fun h => absurd (lp_d h0 hi) h⟩)
    (fun k m f r m' hk hf hp G i hi => by
      have bb := back_bd hW k
      have G := G _ (inc hi)
      refine g_r_supposesOpen_4 ⟨fun h => absurd h (lp_g h0 hi hk (by omega)), fun _ => ⟨fun g => ?_, fun g => ?_⟩⟩
      · rw [hne hk hi] at g
        unfold dvO at hp
        rw [if_neg g] at hp
        rw [if_neg g] at G
        rcases R_supposes (nb := nb) (db := db) (by_ := by_) (rs := rs) (c := c) (mk := m) S' hi (by omega) (u := backZ σ k - backZ σ j) ⟨by omega, by omega⟩ rfl with ⟨-, R⟩ | ⟨z, -⟩
        · refine ⟨_, R_partsOf K' hi (by omega), _, R_partsOf K' hx hj, _, _, _, by rw [zL_sub]; exact R, fun g => absurd g n10, fun _ => ⟨fun g => ?_, fun g => ?_⟩⟩
          · rcases hf with hf | hf
            · rw [hf] at G; exact G
            · rw [hf] at g; exact absurd g n10
          · rcases hf with hf | hf
            · rw [hf] at g; exact absurd rfl g
            · rw [hf] at G; exact G
        · exact absurd hp z
      · rw [hne hk hi] at g
        unfold dvO at hp
        rw [if_pos g, g] at hp
        rw [if_pos g] at G
        rcases R_supposes (nb := nb) (db := db) (by_ := by_) (rs := rs) (c := c) (mk := m) S' hi (by omega) (u := backZ σ j * h) bh rfl with ⟨-, R⟩ | ⟨z, -⟩
        · refine ⟨_, R_partsOf K' hx hj, _, _, _, by rw [e2, zL_mul]; exact R, fun g => absurd g n10, fun _ => ⟨fun g => ?_, fun g => ?_⟩⟩
          · rcases hf with hf | hf
            · rw [hf] at G; exact G
            · rw [hf] at g; exact absurd g n10
          · rcases hf with hf | hf
            · rw [hf] at g; exact absurd rfl g
            · rw [hf] at G; exact G
        · exact absurd (hi2.1.mpr hp) z)
    (fun k m f r m' hk hf hp G i hi => by
      have bb := back_bd hW k
      have G := G _ (inc hi)
      refine g_r_supposesOpen_4 ⟨fun h => absurd h (lp_g h0 hi hk (by omega)), fun _ => ⟨fun g => ?_, fun g => ?_⟩⟩
      · rw [hne hk hi] at g
        unfold dvO at hp
        rw [if_neg g] at hp
        rw [if_neg g] at G
        rcases R_supposes (nb := nb) (db := db) (by_ := by_) (rs := rs) (c := c) (mk := m) S' hi (by omega) (u := backZ σ k - backZ σ j) ⟨by omega, by omega⟩ rfl with ⟨z, -⟩ | ⟨-, R⟩
        · exact absurd z hp
        · exact ⟨_, R_partsOf K' hi (by omega), _, R_partsOf K' hx hj, _, _, _, by rw [zL_sub]; exact R, fun _ => G, fun g => absurd rfl g⟩
      · rw [hne hk hi] at g
        unfold dvO at hp
        rw [if_pos g, g] at hp
        rw [if_pos g] at G
        rcases R_supposes (nb := nb) (db := db) (by_ := by_) (rs := rs) (c := c) (mk := m) S' hi (by omega) (u := backZ σ j * h) bh rfl with ⟨z, -⟩ | ⟨-, R⟩
        · exact absurd (hi2.1.mp z) hp
        · exact ⟨_, R_partsOf K' hx hj, _, _, _, by rw [e2, zL_mul]; exact R, fun _ => G, fun g => absurd rfl g⟩)
    0 (by omega) (nI 1) mk (Or.inr rfl)
  refine ⟨m', a1, ?_⟩
  rcases a4 with ⟨c1, c2⟩ | ⟨c1, c2⟩
  · refine Or.inl ⟨fun k hk => c1.2 k (by omega) (by omega), fun k hk => ?_, g_r_supposesOpen_0 (c2 _ rfl)⟩
    rw [a3 k (by omega) (by omega)]
    unfold xO
    by_cases e : k = j
    · have := c1.2 j (by omega) (by omega)
      unfold dvO at this
      rw [if_pos rfl] at this
      rw [if_pos e, if_pos e, e, hi2.2 this]
    · rw [if_neg e, if_neg e]
  · exact Or.inr ⟨fun z => c1 ⟨rfl, fun k h1 h2 => z k (by omega)⟩, g_r_supposesOpen_0 (c2 _ rfl)⟩
end
