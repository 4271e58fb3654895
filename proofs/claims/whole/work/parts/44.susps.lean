/-! ===== suspects: the reference, shut, seen; one suspect ===== -/
section
variable {nb db b : Nat} {by_ rs : RX} {c : Nat} {σ : SG} {mi mj : MI} {ml mk : ML} {x j : Int32}
theorem xB_bd (hW : WF σ) (k : Nat) : -1830006198 ≤ xB σ k ∧ xB σ k ≤ 1830006198 := by
  have := hW.nn
  exact tdiv_b (by omega) (by have := back_bd hW k; omega)
theorem sxB_bd (hW : WF σ) (k : Nat) (hk : k ≤ 31) : -56730192138 ≤ sumZ (xB σ) k ∧ sumZ (xB σ) k ≤ 56730192138 := by
  have := sumZ_ab (f := xB σ) (M := 1830006198) (fun i => xB_bd hW i) k
  omega
theorem M_shut (S : SR σ mj) {j : Nat} (hx : x = nI j) (hj : (j : Int) < σ 0 5) : ∃ m', F61 mk m' ∧ (∀ k : Nat, (k : Int) < σ 0 5 → m' 61 k = zL (if k = j then mon σ - (sumZ (xB σ) (σ 0 5).toNat - xB σ k) else xB σ k)) ∧ (((∀ k : Nat, (k : Int) < σ 0 5 → (backZ σ k).tmod (σ 0 5 + 1) = 0) ∧ Ret m_r_supposesShut [vR 19 0 48, vI x] (some (vI (nI 1))) c (MRc nb db by_ rs) mj mk mj m') ∨ ((¬ ∀ k : Nat, (k : Int) < σ 0 5 → (backZ σ k).tmod (σ 0 5 + 1) = 0) ∧ Ret m_r_supposesShut [vR 19 0 48, vI x] (some (vI (nI 0))) c (MRc nb db by_ rs) mj mk mj m')) := by
  have S' := S
  obtain ⟨⟨hW, hs, hB, hr, -⟩, -⟩ := S
  obtain ⟨n, hn, h31⟩ := wf_n hW
  have en : (σ 0 5).toNat = n := by omega
  have h0 := hs.n hn
  have hm := mon_bd hW
  obtain ⟨m1, a1, a2, a3⟩ := M_fine (nb := nb) (db := db) (by_ := by_) (rs := rs) (c := c) (mk := mk) S'
  have lp : ∀ f : Int32, (f = nI 0 ∨ f = nI 1) → Go m_r_supposesShut 10 [some (vR 19 0 48), some (vI x), some (vI f), some (vL (lN 0)), none, some (vI (nI 0))] [] (some (vI f)) c (MRc nb db by_ rs) mj m1 mj (u2 m1 61 j (zL (xB σ j + (mon σ - sumZ (xB σ) n)))) := by
    intro f hf
    have key : ∀ k, k ≤ n → ∀ (i : Int32) (a : Int64), i = nI k → a = zL (sumZ (xB σ) k) → Go m_r_supposesShut 10 [some (vR 19 0 48), some (vI x), some (vI f), some (vL a), none, some (vI i)] [] (some (vI f)) c (MRc nb db by_ rs) mj m1 mj (u2 m1 61 j (zL (xB σ j + (mon σ - sumZ (xB σ) n)))) := by
      refine upto ?_ ?_
      · intro i a hi ha
        refine g_r_supposesShut_10 ⟨fun _ => ⟨ixn hx (by omega) (by decide), _, R_rmonitor hW hs hB, ixn hx (by omega) (by decide), f01 hf, rfl, rfl, ?_⟩, fun h => absurd (lp_d h0 hi) h⟩
        rw [cln hx (by omega), a2 j hj, ha, zI_l ⟨by omega, by omega⟩, zL_sub, zL_add]
      · intro k hk ih i a hi ha
        refine g_r_supposesShut_10 ⟨fun h => absurd h (lp_g h0 hi hk (by omega)), fun _ => ⟨ixn hi (by omega) (by decide), ih _ _ (inc hi) ?_⟩⟩
        rw [ha, cln hi (by omega), a2 k (by omega), zL_add]; rfl
    exact key 0 (by omega) _ _ rfl rfl
  refine ⟨u2 m1 61 j (zL (xB σ j + (mon σ - sumZ (xB σ) n))), fun a ha => by rw [u2_o _ _ ha, a1 a ha], fun k hk => ?_, ?_⟩
  · by_cases e : k = j
    · rw [if_pos e, e, u2_s, en]; congr 1; omega
    · rw [if_neg e, u2_ne2 _ _ (Or.inr e), a2 k hk]
  · rcases a3 with ⟨c1, c2⟩ | ⟨c1, c2⟩
    · exact Or.inl ⟨c1, g_r_supposesShut_0 ⟨_, _, _, c2, lp _ (Or.inr rfl)⟩⟩
    · exact Or.inr ⟨c1, g_r_supposesShut_0 ⟨_, _, _, c2, lp _ (Or.inl rfl)⟩⟩
theorem M_lights (S : SR σ mj) {v : Nat → Int} (hv : ∀ k : Nat, (k : Int) < σ 0 5 → mk 61 k = zL (v k)) (hb : ∀ k : Nat, (k : Int) < σ 0 5 → -200000000000 ≤ v k ∧ v k ≤ 200000000000) : (((∀ k : Nat, (k : Int) < σ 0 5 → 0 ≤ v k ∧ v k ≤ 9999) ∧ sumZ v (σ 0 5).toNat = mon σ) ∧ Ret m_r_areLights [vR 19 0 48] (some (vI (nI 1))) c (MRc nb db by_ rs) mj mk mj mk) ∨ (¬ ((∀ k : Nat, (k : Int) < σ 0 5 → 0 ≤ v k ∧ v k ≤ 9999) ∧ sumZ v (σ 0 5).toNat = mon σ) ∧ Ret m_r_areLights [vR 19 0 48] (some (vI (nI 0))) c (MRc nb db by_ rs) mj mk mj mk) := by
  obtain ⟨⟨hW, hs, hB, hr, -⟩, -⟩ := S
  obtain ⟨n, hn, h31⟩ := wf_n hW
  have en : (σ 0 5).toNat = n := by omega
  rw [en]
  have h0 := hs.n hn
  have hm := mon_bd hW
  have key : ∀ k, k ≤ n → ∀ (i : Int32) (a : Int64), i = nI k → a = zL (sumZ v k) → 0 ≤ sumZ v k → sumZ v k ≤ k * 9999 → (((∀ q, k ≤ q → q < n → 0 ≤ v q ∧ v q ≤ 9999) ∧ sumZ v n = mon σ) ∧ Go m_r_areLights 4 [some (vR 19 0 48), some (vL a), none, some (vI i)] [] (some (vI (nI 1))) c (MRc nb db by_ rs) mj mk mj mk) ∨ (¬ ((∀ q, k ≤ q → q < n → 0 ≤ v q ∧ v q ≤ 9999) ∧ sumZ v n = mon σ) ∧ Go m_r_areLights 4 [some (vR 19 0 48), some (vL a), none, some (vI i)] [] (some (vI (nI 0))) c (MRc nb db by_ rs) mj mk mj mk) := by
    refine upto ?_ ?_
    · intro i a hi ha h1 h2
      have eq : a = (zI (mon σ)).toInt64 ↔ sumZ v n = mon σ := by rw [ha, zI_l ⟨by omega, by omega⟩, zL_eq ⟨by omega, by omega⟩ ⟨by omega, by omega⟩]
      by_cases h : sumZ v n = mon σ
      · exact Or.inl ⟨⟨fun q h1 h2 => by omega, h⟩, g_r_areLights_4 ⟨fun _ => ⟨_, R_rmonitor hW hs hB, fun g => absurd (eq.mpr h) g, fun _ => ⟨rfl, rfl, rfl⟩⟩, fun h => absurd (lp_d h0 hi) h⟩⟩
      · exact Or.inr ⟨fun z => h z.2, g_r_areLights_4 ⟨fun _ => ⟨_, R_rmonitor hW hs hB, fun _ => ⟨rfl, rfl, rfl⟩, fun g => absurd (eq.mp g) h⟩, fun h => absurd (lp_d h0 hi) h⟩⟩
    · intro k hk ih i a hi ha h1 h2
      have bv := hb k (by omega)
      have ev : mk 61 i.toNatClampNeg = zL (v k) := by rw [cln hi (by omega)]; exact hv k (by omega)
      have lo : mk 61 i.toNatClampNeg < lN 0 ↔ v k < 0 := by rw [ev, lN_z, zL_lt ⟨by omega, by omega⟩ (by decide)]; rfl
      have up : mk 61 i.toNatClampNeg ≤ lN 9999 ↔ v k ≤ 9999 := by rw [ev, lN_z, zL_le ⟨by omega, by omega⟩ (by decide)]; rfl
      by_cases hlo : v k < 0
      · exact Or.inr ⟨fun z => by have := z.1 k (by omega) hk; omega, g_r_areLights_4 ⟨fun h => absurd h (lp_g h0 hi hk (by omega)), fun _ => ⟨ixn hi (by omega) (by decide), fun _ => ⟨rfl, rfl, rfl⟩, fun g => absurd (lo.mpr hlo) g⟩⟩⟩
      · by_cases hup : v k ≤ 9999
        · have es : sumZ v (k + 1) = sumZ v k + v k := rfl
          have st : ∀ r, Go m_r_areLights 4 [some (vR 19 0 48), some (vL (a + mk 61 i.toNatClampNeg)), none, some (vI (i + nI 1))] [] (some (vI r)) c (MRc nb db by_ rs) mj mk mj mk → Go m_r_areLights 4 [some (vR 19 0 48), some (vL a), none, some (vI i)] [] (some (vI r)) c (MRc nb db by_ rs) mj mk mj mk := fun r G =>
            g_r_areLights_4 ⟨fun h => absurd h (lp_g h0 hi hk (by omega)), fun _ => ⟨ixn hi (by omega) (by decide), fun g => absurd (lo.mp g) hlo, fun _ => ⟨ixn hi (by omega) (by decide), fun _ => ⟨ixn hi (by omega) (by decide), G⟩, fun g => absurd (up.mpr hup) g⟩⟩⟩
          have pall : ((∀ q, k ≤ q → q < n → 0 ≤ v q ∧ v q ≤ 9999) ∧ sumZ v n = mon σ) ↔ ((∀ q, k + 1 ≤ q → q < n → 0 ≤ v q ∧ v q ≤ 9999) ∧ sumZ v n = mon σ) := ⟨fun h => ⟨fun q h1 h2 => h.1 q (by omega) h2, h.2⟩, fun h => ⟨fun q h1 h2 => by
            rcases Nat.lt_or_ge k q with z | z
            · exact h.1 q (by omega) h2
            · rw [show q = k by omega]; omega, h.2⟩⟩
          rcases ih (i + nI 1) (a + mk 61 i.toNatClampNeg) (inc hi) (by rw [ha, ev, zL_add, es]) (by omega) (by omega) with ⟨c1, c2⟩ | ⟨c1, c2⟩
          · exact Or.inl ⟨pall.mpr c1, st _ c2⟩
          · exact Or.inr ⟨fun z => c1 (pall.mp z), st _ c2⟩
        · exact Or.inr ⟨fun z => by have := z.1 k (by omega) hk; omega, g_r_areLights_4 ⟨fun h => absurd h (lp_g h0 hi hk (by omega)), fun _ => ⟨ixn hi (by omega) (by decide), fun g => absurd (lo.mp g) hlo, fun _ => ⟨ixn hi (by omega) (by decide), fun g => absurd (up.mp g) hup, fun _ => ⟨rfl, rfl, rfl⟩⟩⟩⟩⟩
  rcases key 0 (by omega) _ _ rfl rfl (by show (0 : Int) ≤ 0; decide) (by show (0 : Int) ≤ _; omega) with ⟨c1, c2⟩ | ⟨c1, c2⟩
  · exact Or.inl ⟨⟨fun k hk => c1.1 k (by omega) (by omega), c1.2⟩, g_r_areLights_0 c2⟩
  · exact Or.inr ⟨fun z => c1 ⟨fun q h1 h2 => z.1 q (by omega), z.2⟩, g_r_areLights_0 c2⟩
theorem M_read (S : SR σ mj) {v : Nat → Int} (hv : ∀ k : Nat, (k : Int) < σ 0 5 → mk 61 k = zL (v k)) {q z : Nat} {o s y : Int32} (hq : (q = 0 ∧ o = nI 0 ∧ s = nI 0) ∨ (q % 2 = 1 ∧ (q - 1) / 2 < 31 ∧ o = nI (2 ^ ((q - 1) / 2)) ∧ s = nI 0) ∨ (q ≠ 0 ∧ q % 2 = 0 ∧ (q - 1) / 2 < 31 ∧ o = nI 0 ∧ s = nI (2 ^ ((q - 1) / 2)))) (hz : z < 2 ^ 31) (hy : y = nI z) : Ret m_r_supposedRead [vR 19 0 48, vI y, vI o, vI s] (some (vL (zL (σ 0 7 + sumZ (fun k => (bQ q z k : Int) * v k) (σ 0 5).toNat)))) c (MRc nb db by_ rs) mj mk mj mk := by
  obtain ⟨⟨hW, hs, hB, hr, -⟩, -⟩ := S
  obtain ⟨n, hn, h31⟩ := wf_n hW
  have hdk := hW.dk
  rw [show (σ 0 5).toNat = n by omega]
  have h0 := hs.n hn
  obtain ⟨t, t1, t2, t3⟩ := bits_r hq hz
  refine g_r_supposedRead_0 ?_
  have key : ∀ k, k ≤ n → ∀ (i u : Int32) (a : Int64), i = nI k → u = nI t → a = zL (σ 0 7 + sumZ (fun k => (bQ q z k : Int) * v k) k) → Go m_r_supposedRead 19 [some (vR 19 0 48), some (vI y), some (vI o), some (vI s), some (vI u), some (vL a), none, some (vI i)] [] (some (vL (zL (σ 0 7 + sumZ (fun k => (bQ q z k : Int) * v k) n)))) c (MRc nb db by_ rs) mj mk mj mk := by
    refine upto ?_ ?_
    · intro i u a hi hu ha
      exact g_r_supposedRead_19 ⟨fun _ => ⟨by rw [ha], rfl, rfl⟩, fun h => absurd (lp_d h0 hi) h⟩
    · intro k hk ih i u a hi hu ha
      refine g_r_supposedRead_19 ⟨fun h => absurd h (lp_g h0 hi hk (by omega)), fun _ => ⟨_, R_has hu hi t1 (by omega), fun g => ih _ _ _ (inc hi) hu ?_, fun g => ⟨ixn hi (by omega) (by decide), ih _ _ _ (inc hi) hu ?_⟩⟩⟩
      · have g : ¬ bt t k = 1 := bt_r.mp g
        have z0 : bQ q z k = 0 := by rw [← t3 k (by omega)]; rcases bt_01 t k with w | w <;> omega
        rw [ha]
        show _ = zL (σ 0 7 + (sumZ (fun k => (bQ q z k : Int) * v k) k + (bQ q z k : Int) * v k))
        rw [z0]; simp
      · have g : bt t k = 1 := Classical.not_not.mp (fun w => g (bt_r.mpr w))
        have z1 : bQ q z k = 1 := by rw [← t3 k (by omega)]; exact g
        rw [ha, cln hi (by omega), hv k (by omega), zL_add]
        show _ = zL (σ 0 7 + (sumZ (fun k => (bQ q z k : Int) * v k) k + (bQ q z k : Int) * v k))
        rw [z1, Int.add_assoc]; simp
  refine key 0 (by omega) _ _ _ rfl ?_ ?_
  · rw [hy, t2]
  · rw [(hs.dtk hr).2.1, zI_l ⟨by omega, by omega⟩]; show _ = zL (σ 0 7 + 0); rw [Int.add_zero]
theorem bqv_bd (hW : WF σ) {v : Nat → Int} (hb : ∀ k : Nat, (k : Int) < σ 0 5 → 0 ≤ v k ∧ v k ≤ 9999) (q z : Nat) : 0 ≤ sumZ (fun k => (bQ q z k : Int) * v k) (σ 0 5).toNat ∧ sumZ (fun k => (bQ q z k : Int) * v k) (σ 0 5).toNat ≤ 309969 := by
  obtain ⟨n, hn, h31⟩ := wf_n hW
  have en : (σ 0 5).toNat = n := by omega
  rw [en]
  have e : sumZ (fun k => (bQ q z k : Int) * v k) n = sumZ (fun k => if k < n then (bQ q z k : Int) * v k else 0) n := sumZ_cg n (fun k hk => (if_pos hk).symm)
  have b01 : ∀ k, bQ q z k = 0 ∨ bQ q z k = 1 := fun k => by
    unfold bQ
    have := bt_01 z k
    split
    · exact this
    · split
      · split
        · exact Or.inr rfl
        · exact this
      · split
        · exact Or.inl rfl
        · exact this
  have := sumZ_bd (f := fun k => if k < n then (bQ q z k : Int) * v k else 0) (M := 9999) (fun k => by
    by_cases h : k < n
    · rw [if_pos h]
      have := hb k (by omega)
      rcases b01 k with w | w <;> rw [w] <;> simp <;> exact this
    · rw [if_neg h]; omega) n
  rw [e]
  omega
theorem M_seen (S : SR σ mj) {v : Nat → Int} (hv : ∀ k : Nat, (k : Int) < σ 0 5 → mk 61 k = zL (v k)) (hb : ∀ k : Nat, (k : Int) < σ 0 5 → 0 ≤ v k ∧ v k ≤ 9999) {q : Nat} {o s : Int32} (hq : (q = 0 ∧ o = nI 0 ∧ s = nI 0) ∨ (q % 2 = 1 ∧ (q - 1) / 2 < 31 ∧ o = nI (2 ^ ((q - 1) / 2)) ∧ s = nI 0) ∨ (q ≠ 0 ∧ q % 2 = 0 ∧ (q - 1) / 2 < 31 ∧ o = nI 0 ∧ s = nI (2 ^ ((q - 1) / 2)))) :
    (((∀ i : Nat, (i : Int) < σ 0 5 → σ 0 7 + sumZ (fun k => (bQ q (plS σ i) k : Int) * v k) (σ 0 5).toNat = rdg σ i) ∧ (∀ i : Nat, (i : Int) < σ 0 11 → lgV σ v (fun i k => bQ q (σ 5 i).toNat k) i)) ∧ Ret m_r_areSeen [vR 19 0 48, vI o, vI s] (some (vI (nI 1))) c (MRc nb db by_ rs) mj mk mj mk) ∨ (¬ ((∀ i : Nat, (i : Int) < σ 0 5 → σ 0 7 + sumZ (fun k => (bQ q (plS σ i) k : Int) * v k) (σ 0 5).toNat = rdg σ i) ∧ (∀ i : Nat, (i : Int) < σ 0 11 → lgV σ v (fun i k => bQ q (σ 5 i).toNat k) i)) ∧ Ret m_r_areSeen [vR 19 0 48, vI o, vI s] (some (vI (nI 0))) c (MRc nb db by_ rs) mj mk mj mk) := by
  have S' := S
  obtain ⟨⟨hW, hs, hB, hr, hR⟩, hl0, h43, hlg, hlb⟩ := S
  obtain ⟨n, hn, h31⟩ := wf_n hW
  have h0 := hs.n hn
  have hdk := hW.dk
  obtain ⟨-, nl⟩ := net_all hW hn hl0
  obtain ⟨L, eL⟩ : ∃ L : Nat, σ 0 11 = L := ⟨(σ 0 11).toNat, by have := hW.lg; omega⟩
  have h20 := hW.lg
  have h43 : mj 48 43 = nI L := by rw [h43, eL]; rfl
  -- the log, the oldest first
  have lg : ∀ k, k ≤ L → ∀ i, i = nI k → ((∀ r, k ≤ r → r < L → lgV σ v (fun i k => bQ q (σ 5 i).toNat k) (L - 1 - r)) ∧ Go m_r_areSeen 43 [some (vR 19 0 48), some (vI o), some (vI s), some (vI i)] [] (some (vI (nI 1))) c (MRc nb db by_ rs) mj mk mj mk) ∨ ((∃ r, k ≤ r ∧ r < L ∧ ¬ lgV σ v (fun i k => bQ q (σ 5 i).toNat k) (L - 1 - r)) ∧ Go m_r_areSeen 43 [some (vR 19 0 48), some (vI o), some (vI s), some (vI i)] [] (some (vI (nI 0))) c (MRc nb db by_ rs) mj mk mj mk) := by
    refine upto ?_ ?_
    · intro i hi
      exact Or.inl ⟨fun r h1 h2 => by omega, g_r_areSeen_43 ⟨fun _ => ⟨rfl, rfl, rfl⟩, fun h => absurd (lp_d h43 hi) h⟩⟩
    · intro k hk ih i hi
      have el := hlg (L - 1 - k) (by omega)
      rw [show (σ 0 11).toNat - 1 - (L - 1 - k) = k by omega] at el
      obtain ⟨b5, b6⟩ := hlb (L - 1 - k) (by omega)
      have bb := bqv_bd hW hb q (σ 5 (L - 1 - k)).toNat
      have e5 : mj 58 i.toNatClampNeg = nI (σ 5 (L - 1 - k)).toNat := by rw [cln hi (by omega), el.1, z_nat b5.1]
      have e6 : (mj 59 i.toNatClampNeg).toInt64 = zL (σ 6 (L - 1 - k)) := by rw [cln hi (by omega), el.2, zI_l ⟨by omega, by omega⟩]
      have rd := M_read (nb := nb) (db := db) (by_ := by_) (rs := rs) (c := c) S' hv hq (show (σ 5 (L - 1 - k)).toNat < 2 ^ 31 by omega) e5
      have eq : zL (σ 0 7 + sumZ (fun k' => (bQ q (σ 5 (L - 1 - k)).toNat k' : Int) * v k') (σ 0 5).toNat) = (mj 59 i.toNatClampNeg).toInt64 ↔ lgV σ v (fun i k => bQ q (σ 5 i).toNat k) (L - 1 - k) := by
        rw [e6, zL_eq ⟨by omega, by omega⟩ ⟨by omega, by omega⟩]; rfl
      by_cases h : lgV σ v (fun i k => bQ q (σ 5 i).toNat k) (L - 1 - k)
      · have st : ∀ r, Go m_r_areSeen 43 [some (vR 19 0 48), some (vI o), some (vI s), some (vI (i + nI 1))] [] (some (vI r)) c (MRc nb db by_ rs) mj mk mj mk → Go m_r_areSeen 43 [some (vR 19 0 48), some (vI o), some (vI s), some (vI i)] [] (some (vI r)) c (MRc nb db by_ rs) mj mk mj mk := fun r G =>
          g_r_areSeen_43 ⟨fun h => absurd h (lp_g h43 hi hk (by omega)), fun _ => ⟨ixn hi (by omega) (by decide), _, rd, ixn hi (by omega) (by decide), fun _ => G, fun g => absurd (eq.mpr h) g⟩⟩
        rcases ih (i + nI 1) (inc hi) with ⟨c1, c2⟩ | ⟨⟨r, r1, r2, r3⟩, c2⟩
        · refine Or.inl ⟨fun r h1 h2 => ?_, st _ c2⟩
          rcases Nat.lt_or_ge k r with z | z
          · exact c1 r (by omega) h2
          · rw [show r = k by omega]; exact h
        · exact Or.inr ⟨⟨r, by omega, r2, r3⟩, st _ c2⟩
      · exact Or.inr ⟨⟨k, by omega, hk, h⟩, g_r_areSeen_43 ⟨fun h => absurd h (lp_g h43 hi hk (by omega)), fun _ => ⟨ixn hi (by omega) (by decide), _, rd, ixn hi (by omega) (by decide), fun g => absurd (eq.mp g) h, fun _ => ⟨rfl, rfl, rfl⟩⟩⟩⟩
  have lgA : ((∀ i : Nat, (i : Int) < σ 0 11 → lgV σ v (fun i k => bQ q (σ 5 i).toNat k) i) ∧ Go m_r_areSeen 43 [some (vR 19 0 48), some (vI o), some (vI s), some (vI (nI 0))] [] (some (vI (nI 1))) c (MRc nb db by_ rs) mj mk mj mk) ∨ ((¬ ∀ i : Nat, (i : Int) < σ 0 11 → lgV σ v (fun i k => bQ q (σ 5 i).toNat k) i) ∧ Go m_r_areSeen 43 [some (vR 19 0 48), some (vI o), some (vI s), some (vI (nI 0))] [] (some (vI (nI 0))) c (MRc nb db by_ rs) mj mk mj mk) := by
    rcases lg 0 (by omega) _ rfl with ⟨c1, c2⟩ | ⟨⟨r, r1, r2, r3⟩, c2⟩
    · refine Or.inl ⟨fun i hi => ?_, c2⟩
      have := c1 (L - 1 - i) (by omega) (by omega)
      rw [show L - 1 - (L - 1 - i) = i by omega] at this
      exact this
    · exact Or.inr ⟨fun z => r3 (z (L - 1 - r) (by omega)), c2⟩
  have key : ∀ k, k ≤ n → ∀ i, i = nI k → (((∀ r, k ≤ r → r < n → σ 0 7 + sumZ (fun k => (bQ q (plS σ r) k : Int) * v k) (σ 0 5).toNat = rdg σ r) ∧ (∀ i : Nat, (i : Int) < σ 0 11 → lgV σ v (fun i k => bQ q (σ 5 i).toNat k) i)) ∧ Go m_r_areSeen 2 [some (vR 19 0 48), some (vI o), some (vI s), some (vI i)] [] (some (vI (nI 1))) c (MRc nb db by_ rs) mj mk mj mk) ∨ (¬ ((∀ r, k ≤ r → r < n → σ 0 7 + sumZ (fun k => (bQ q (plS σ r) k : Int) * v k) (σ 0 5).toNat = rdg σ r) ∧ (∀ i : Nat, (i : Int) < σ 0 11 → lgV σ v (fun i k => bQ q (σ 5 i).toNat k) i)) ∧ Go m_r_areSeen 2 [some (vR 19 0 48), some (vI o), some (vI s), some (vI i)] [] (some (vI (nI 0))) c (MRc nb db by_ rs) mj mk mj mk) := by
    refine upto ?_ ?_
    · intro i hi
      rcases lgA with ⟨c1, c2⟩ | ⟨c1, c2⟩
      · exact Or.inl ⟨⟨fun r h1 h2 => by omega, c1⟩, g_r_areSeen_2 ⟨fun _ => c2, fun h => absurd (lp_d h0 hi) h⟩⟩
      · exact Or.inr ⟨fun z => c1 z.2, g_r_areSeen_2 ⟨fun _ => c2, fun h => absurd (lp_d h0 hi) h⟩⟩
    · intro k hk ih i hi
      have bb := bqv_bd hW hb q (plS σ k)
      have br := rdg_bd hW k
      have e5 : mj 49 i.toNatClampNeg = nI (plS σ k) := by rw [cln hi (by omega)]; exact hB.1 k (by omega)
      have e6 : (mj 60 i.toNatClampNeg).toInt64 = zL (rdg σ k) := by rw [cln hi (by omega), hR k (by omega) (nl k hk), zI_l ⟨by omega, by omega⟩]
      have rd := M_read (nb := nb) (db := db) (by_ := by_) (rs := rs) (c := c) S' hv hq (plS_lt hW k) e5
      have eq : zL (σ 0 7 + sumZ (fun k' => (bQ q (plS σ k) k' : Int) * v k') (σ 0 5).toNat) = (mj 60 i.toNatClampNeg).toInt64 ↔ σ 0 7 + sumZ (fun k' => (bQ q (plS σ k) k' : Int) * v k') (σ 0 5).toNat = rdg σ k := by
        rw [e6, zL_eq ⟨by omega, by omega⟩ ⟨by omega, by omega⟩]
      by_cases h : σ 0 7 + sumZ (fun k' => (bQ q (plS σ k) k' : Int) * v k') (σ 0 5).toNat = rdg σ k
      · have st : ∀ r, Go m_r_areSeen 2 [some (vR 19 0 48), some (vI o), some (vI s), some (vI (i + nI 1))] [] (some (vI r)) c (MRc nb db by_ rs) mj mk mj mk → Go m_r_areSeen 2 [some (vR 19 0 48), some (vI o), some (vI s), some (vI i)] [] (some (vI r)) c (MRc nb db by_ rs) mj mk mj mk := fun r G =>
          g_r_areSeen_2 ⟨fun h => absurd h (lp_g h0 hi hk (by omega)), fun _ => ⟨ixn hi (by omega) (by decide), _, rd, ixn hi (by omega) (by decide), fun _ => G, fun g => absurd (eq.mpr h) g⟩⟩
        rcases ih (i + nI 1) (inc hi) with ⟨c1, c2⟩ | ⟨c1, c2⟩
        · refine Or.inl ⟨⟨fun r h1 h2 => ?_, c1.2⟩, st _ c2⟩
          rcases Nat.lt_or_ge k r with z | z
          · exact c1.1 r (by omega) h2
          · rw [show r = k by omega]; exact h
        · exact Or.inr ⟨fun z => c1 ⟨fun r h1 h2 => z.1 r (by omega) h2, z.2⟩, st _ c2⟩
      · exact Or.inr ⟨fun z => h (z.1 k (by omega) hk), g_r_areSeen_2 ⟨fun h => absurd h (lp_g h0 hi hk (by omega)), fun _ => ⟨ixn hi (by omega) (by decide), _, rd, ixn hi (by omega) (by decide), fun g => absurd (eq.mp g) h, fun _ => ⟨rfl, rfl, rfl⟩⟩⟩⟩
  rcases key 0 (by omega) _ rfl with ⟨c1, c2⟩ | ⟨c1, c2⟩
  · exact Or.inl ⟨⟨fun i hi => c1.1 i (by omega) (by omega), c1.2⟩, g_r_areSeen_0 c2⟩
  · exact Or.inr ⟨fun z => c1 ⟨fun r h1 h2 => z.1 r (by omega), z.2⟩, g_r_areSeen_0 c2⟩
end
