/-! ===== looks: blinds, one look, the log ===== -/
/-- a plate's bits -/
def plS (σ : SG) (i : Nat) : Nat := plN (σ 0 6).toNat (σ 0 5).toNat i
theorem plS_lt {σ : SG} (hW : WF σ) (i : Nat) : plS σ i < 2 ^ 31 := pl_lt _ _ _ (by have := hW.nn; omega)
theorem WF.dk {σ : SG} (h : WF σ) : 0 ≤ σ 0 7 ∧ σ 0 7 ≤ 999 := h.2.1
theorem WF.tp {σ : SG} (h : WF σ) : 0 ≤ σ 0 8 ∧ σ 0 8 ≤ 999999 := h.2.2.1
theorem WF.no {σ : SG} (h : WF σ) (i : Nat) : -99 ≤ σ 3 i ∧ σ 3 i ≤ 99 := h.2.2.2.2.2.2.2.2.2.2.2.1 i
/-- what a look reads -/
def rdS (σ : SG) (set : Nat) : Int := σ 0 7 + thr σ set
theorem rdS_bd {σ : SG} (hW : WF σ) (set : Nat) : 0 ≤ rdS σ set ∧ rdS σ set ≤ 310968 := by
  have := hW.dk
  have := thr_bd hW set
  unfold rdS
  omega
def blZ (σ : SG) : Nat → Nat → Int → Int
  | 0, _, _ => -2
  | d + 1, j, A => if bt (loB σ) j = 1 then blZ σ d (j + 1) A else if σ 0 8 < rdS σ (plS σ j) then A else blZ σ d (j + 1) (A + 1)
theorem stepd {n j : Nat} (h : j < n) : n - j = (n - (j + 1)) + 1 := by omega
theorem lost_i {σ : SG} (hW : WF σ) {x i : Int32} {j : Nat} (hx : x = nI (loB σ)) (hi : i = nI j) (hj : j < 32) : ((x >>> (i &&& 31)) &&& nI 1 = nI 1) ↔ bt (loB σ) j = 1 := by
  rw [bit_i hx hi (lo_lt hW) hj, nI_01 (bt_01 _ _)]
theorem bt_r {b i : Nat} : nI (bt b i) = 0 ↔ ¬ bt b i = 1 := by
  rcases bt_01 b i with z | z <;> rw [z] <;> decide
theorem incA {i : Int32} {A : Int} (h : i = zI A) : i + nI 1 = zI (A + 1) := by rw [h, show nI 1 = zI 1 from rfl, zI_add]
section
variable {nb db b : Nat} {by_ rs : RX} {c : Nat} {σ : SG} {mi mj : MI} {ml mk : ML} {x j : Int32}
theorem RMs.dtk (hs : RMs σ mj) (hr : σ 0 0 = 1) : mj 48 6 = zI (σ 0 6) ∧ mj 48 7 = zI (σ 0 7) ∧ mj 48 8 = zI (σ 0 8) := hs.2.2.2.2.2.2.2.2.2.2.2.2.2.1 hr
theorem A_blinds (hb : nb = 43 ∧ db = 5 ∨ nb = 5 ∧ db = 43) (I : IC σ nb mi) (J : IR σ mj) : Agr m_w_blinds m_r_blinds [] nb db by_ rs mi ml mj mk := by
  obtain ⟨hW, hs, hB⟩ := J
  by_cases hr : σ 0 0 = 1
  · have hBn := (I.2.2 hr).w (hbb_of hb) (nI 0)
    obtain ⟨n, hn, h31⟩ := wf_n hW
    have h0 := hBn.n hn
    have h1 := hs.n hn
    obtain ⟨-, k7, k8⟩ := hs.dtk hr
    have htp := hW.tp
    refine Agr.mk (vI (zI (blZ σ n 0 0))) 0 (by decide) (fun c => g_w_blinds_0 ⟨fun g => absurd g (rd1 I.2.1 hr), fun _ => ?_⟩) (fun c => g_r_blinds_0 ⟨fun _ => ?_, fun g => absurd g (rf1 hs hr)⟩)
    · have key : ∀ k, k ≤ n → ∀ i a A, i = nI k → a = zI A → Go m_w_blinds 13 [some (vR 10 0 1), some (vI a), some (vI i)] [] (some (vI (zI (blZ σ (n - k) k A)))) c (MRc nb db by_ rs) (u2 mi 1 9 (nI 0)) ml (u2 mi 1 9 (nI 0)) ml := by
        refine upto ?_ ?_
        · intro i a A hi ha
          exact g_w_blinds_13 hb ⟨fun _ => ⟨by rw [Nat.sub_self]; rfl, rfl, rfl⟩, fun h => absurd (lp_d h0 hi) h⟩
        · intro k hk ih i a A hi ha
          have el := lost_i hW (hBn.lo hW) hi (show k < 32 by omega)
          have hrd := rdS_bd hW (plS σ k)
          rw [stepd hk]
          refine g_w_blinds_13 hb ⟨fun h => absurd h (lp_g h0 hi hk (by omega)), fun _ => ⟨fun g => ⟨ixn hi (by omega) (by decide), _, R_readOf (hbb_of hb) hW hBn (plS_lt hW k) (by rw [cln hi (by omega), hBn.pl (by omega)]; rfl), fun g2 => ?_, fun g2 => ⟨?_, rfl, rfl⟩⟩, fun g => ?_⟩⟩
          · rw [el] at g
            rw [hBn.2.2.2.1, zI_le ⟨by unfold rdS at hrd; omega, by unfold rdS at hrd; omega⟩ ⟨by omega, by omega⟩] at g2
            show Go _ _ _ _ (some (vI (zI (if bt (loB σ) k = 1 then _ else if σ 0 8 < rdS σ (plS σ k) then _ else _)))) _ _ _ _ _ _
            rw [if_neg g, if_neg (by unfold rdS; omega)]
            exact ih _ _ _ (inc hi) (incA ha)
          · rw [el] at g
            rw [hBn.2.2.2.1, zI_le ⟨by unfold rdS at hrd; omega, by unfold rdS at hrd; omega⟩ ⟨by omega, by omega⟩] at g2
            show some (vI (zI (if bt (loB σ) k = 1 then _ else if σ 0 8 < rdS σ (plS σ k) then _ else _))) = _
            rw [if_neg g, if_pos (by unfold rdS; omega), ha]
          · rw [el] at g
            show Go _ _ _ _ (some (vI (zI (if bt (loB σ) k = 1 then _ else _)))) _ _ _ _ _ _
            rw [if_pos g]
            exact ih _ _ _ (inc hi) ha
      exact key 0 (by omega) _ _ _ rfl rfl
    · have key : ∀ k, k ≤ n → ∀ i a A, i = nI k → a = zI A → Go m_r_blinds 22 [some (vR 19 0 48), some (vI a), some (vI i)] [] (some (vI (zI (blZ σ (n - k) k A)))) c (MRc nb db by_ rs) (u2 mj 48 0 (nI 0)) mk (T3 mj 0) mk := by
        refine upto ?_ ?_
        · intro i a A hi ha
          exact g_r_blinds_22 ⟨fun _ => ⟨by rw [Nat.sub_self]; rfl, rfl, rfl⟩, fun h => absurd (lp_d h1 hi) h⟩
        · intro k hk ih i a A hi ha
          have hrd := rdS_bd hW (plS σ k)
          rw [stepd hk]
          refine g_r_blinds_22 ⟨fun h => absurd h (lp_g h1 hi hk (by omega)), fun _ => ⟨_, R_has (RMs.lob hW hs) hi (lo_lt hW) (by omega), fun g => ⟨ixn hi (by omega) (by decide), _, R_through hW (RMs_th hs _) hB (plS_lt hW k) ?_, fun g2 => ?_, fun g2 => ⟨?_, rfl, rfl⟩⟩, fun g => ?_⟩⟩
          · rw [cln hi (by omega)]; exact hB.1 k (by omega)
          · rw [bt_r] at g
            have g2 : mj 48 7 + zI (thr σ (plS σ k)) ≤ mj 48 8 := g2
            rw [k7, k8, zI_add, zI_le ⟨by unfold rdS at hrd; omega, by unfold rdS at hrd; omega⟩ ⟨by omega, by omega⟩] at g2
            show Go _ _ _ _ (some (vI (zI (if bt (loB σ) k = 1 then _ else if σ 0 8 < rdS σ (plS σ k) then _ else _)))) _ _ _ _ _ _
            rw [if_neg g, if_neg (by unfold rdS; omega)]
            exact ih _ _ _ (inc hi) (incA ha)
          · rw [bt_r] at g
            have g2 : ¬ mj 48 7 + zI (thr σ (plS σ k)) ≤ mj 48 8 := g2
            rw [k7, k8, zI_add, zI_le ⟨by unfold rdS at hrd; omega, by unfold rdS at hrd; omega⟩ ⟨by omega, by omega⟩] at g2
            show some (vI (zI (if bt (loB σ) k = 1 then _ else if σ 0 8 < rdS σ (plS σ k) then _ else _))) = _
            rw [if_neg g, if_pos (by unfold rdS; omega), ha]
          · rw [bt_r, Classical.not_not] at g
            show Go _ _ _ _ (some (vI (zI (if bt (loB σ) k = 1 then _ else _)))) _ _ _ _ _ _
            rw [if_pos g]
            exact ih _ _ _ (inc hi) ha
      exact key 0 (by omega) _ _ _ rfl rfl
  · exact Agr.mk (vI (-(nI 1))) 1 (by decide) (fun c => g_w_blinds_0 ⟨fun _ => ⟨rfl, rfl, rfl⟩, fun g => absurd (rd0 I.2.1 hr hW) g⟩) (fun c => g_r_blinds_0 ⟨fun g => absurd (rf0 hs hr hW) g, fun _ => ⟨rfl, rfl, rfl⟩⟩)
theorem RCb.a11 {k : Nat} {v : Int32} (hbb : b = 43 ∨ b = 5) (h : RCb σ b mi) : RCb σ b (u2 mi 11 k v) := by
  rcases hbb with rfl | rfl <;> exact h
/-- one look that reads -/
theorem R_lookAt (hbb : b = 43 ∨ b = 5) (hW : WF σ) (hB : RCb σ b mi) {set : Nat} (hset : set < 2 ^ 31) {x : Int32} (hx : x = nI set) (h : rdS σ set ≤ σ 0 8) : Ret m_sg_lookAt [vR 14 0 11, vR 13 0 b, vI x] (some (vI (zI (rdS σ set)))) c (MRc nb db by_ rs) mi ml (u2 mi 11 0 (mi 11 0 + nI 1)) ml := by
  have hrd := rdS_bd hW set
  have htp := hW.tp
  refine g_sg_lookAt_0 hbb ⟨_, R_readOf hbb hW (hB.a11 hbb) hset hx, fun g => ⟨rfl, rfl, rfl⟩, fun g => ?_⟩
  rw [hB.2.2.2.1, zI_le ⟨by unfold rdS at hrd; omega, by unfold rdS at hrd; omega⟩ ⟨by omega, by omega⟩] at g
  exact absurd h g
theorem R_lookB (hbb : b = 43 ∨ b = 5) (hW : WF σ) (hB : RCb σ b mi) {set : Nat} (hset : set < 2 ^ 31) {x : Int32} (hx : x = nI set) (h : σ 0 8 < rdS σ set) : Ret m_sg_lookAt [vR 14 0 11, vR 13 0 b, vI x] (some (vI (-(nI 1)))) c (MRc nb db by_ rs) mi ml (u2 (u2 mi 11 0 (mi 11 0 + nI 1)) 11 1 (mi 11 1 + nI 1)) ml := by
  have hrd := rdS_bd hW set
  have htp := hW.tp
  refine g_sg_lookAt_0 hbb ⟨_, R_readOf hbb hW (hB.a11 hbb) hset hx, fun g => ?_, fun g => ⟨rfl, rfl, rfl⟩⟩
  rw [hB.2.2.2.1, zI_le ⟨by unfold rdS at hrd; omega, by unfold rdS at hrd; omega⟩ ⟨by omega, by omega⟩] at g
  unfold rdS at h
  omega
/-- the reference's look; what it asks for of the memory -/
def RMx (σ : SG) (mj : MI) : Prop := mj 48 5 = zI (σ 0 5) ∧ mj 48 7 = zI (σ 0 7) ∧ mj 48 8 = zI (σ 0 8)
theorem R_thr' (hW : WF σ) (hs : RMx σ mj) (hB : RMb σ mj) {set : Nat} (hset : set < 2 ^ 31) {x : Int32} (hx : x = nI set) : Ret m_r_through [vR 19 0 48, vI x] (some (vI (zI (thr σ set)))) c (MRc nb db by_ rs) mj mk mj mk := by
  obtain ⟨n, hn, h31⟩ := wf_n hW
  have h0 : mj 48 5 = nI n := by rw [hs.1, hn]; rfl
  rw [thr_n hn]
  refine g_r_through_0 ?_
  have key : ∀ j, j ≤ n → ∀ i a, i = nI j → a = zI (sumZ (thF σ set) j) → Go m_r_through 4 [some (vR 19 0 48), some (vI x), some (vI a), some (vI i), none] [] (some (vI (zI (sumZ (thF σ set) n)))) c (MRc nb db by_ rs) mj mk mj mk := by
    refine upto ?_ ?_
    · intro i a hi ha
      exact g_r_through_4 ⟨fun _ => ⟨by rw [ha], rfl, rfl⟩, fun h => absurd (lp_d h0 hi) h⟩
    · intro j hj ih i a hi ha
      have e31 : nI 31 + i = nI (31 + j) := by rw [hi, nI_add]
      have ev : mj 54 (nI 31 + i).toNatClampNeg = zI (σ 2 j) := by rw [cln e31 (by omega)]; exact hB.2.2.1 j (by omega)
      have yes : σ 2 j = 1 ∨ (bt set j = 1 ∧ σ 2 j ≠ 2) → a + mj 54 i.toNatClampNeg = zI (sumZ (thF σ set) (j + 1)) := by
        intro hc
        rw [ha, cln hi (by omega), hB.2.1 j (by omega), zI_add]
        show _ = zI (sumZ (thF σ set) j + thF σ set j)
        rw [show thF σ set j = σ 1 j from if_pos hc]
      have no : ¬ (σ 2 j = 1 ∨ (bt set j = 1 ∧ σ 2 j ≠ 2)) → a = zI (sumZ (thF σ set) (j + 1)) := by
        intro hc
        rw [ha]
        show _ = zI (sumZ (thF σ set) j + thF σ set j)
        rw [show thF σ set j = 0 from if_neg hc, Int.add_zero]
      have r1 : zI (σ 2 j) = nI 1 ↔ σ 2 j = 1 := by
        rcases hW.shut j with z | z | z <;> rw [z] <;> decide
      have r2 : zI (σ 2 j) = nI 2 ↔ σ 2 j = 2 := by
        rcases hW.shut j with z | z | z <;> rw [z] <;> decide
      refine g_r_through_4 ⟨fun h => absurd h (lp_g h0 hi hj (by omega)), fun _ => ⟨ixn e31 (by omega) (by decide), fun g => ⟨ixn hi (by omega) (by decide), ih _ _ (inc hi) (yes ?_)⟩, fun g => ⟨_, R_has hx hi hset (by omega), fun g2 => ih _ _ (inc hi) (no ?_), fun g2 => ⟨fun g3 => ih _ _ (inc hi) (no ?_), fun g3 => ⟨ixn hi (by omega) (by decide), ih _ _ (inc hi) (yes ?_)⟩⟩⟩⟩⟩
      · rw [ev, r1] at g; exact Or.inl g
      · rw [ev, r1] at g
        rw [bt_r] at g2
        omega
      · rw [ev, r2] at g3; omega
      · rw [ev, r2] at g3
        rw [bt_r, Classical.not_not] at g2
        exact Or.inr ⟨g2, g3⟩
  exact key 0 (by omega) _ _ rfl rfl
theorem R_looks (hW : WF σ) (hs : RMx σ mj) (hB : RMb σ mj) {set : Nat} (hset : set < 2 ^ 31) {x : Int32} (hx : x = nI set) (h : rdS σ set ≤ σ 0 8) : Ret m_r_looks [vR 19 0 48, vI x] (some (vI (zI (rdS σ set)))) c (MRc nb db by_ rs) mj mk (u2 mj 48 44 (mj 48 44 + nI 1)) mk := by
  have hrd := rdS_bd hW set
  have htp := hW.tp
  refine g_r_looks_0 ⟨_, R_thr' (mj := u2 mj 48 44 (mj 48 44 + nI 1)) hW hs hB hset hx, fun g => ?_, fun g => ⟨?_, rfl, rfl⟩⟩
  · rw [hs.2.1, hs.2.2, zI_add, zI_lt ⟨by omega, by omega⟩ ⟨by unfold rdS at hrd; omega, by unfold rdS at hrd; omega⟩] at g
    unfold rdS at h
    omega
  · rw [hs.2.1, zI_add]; rfl
theorem R_looksB (hW : WF σ) (hs : RMx σ mj) (hB : RMb σ mj) {set : Nat} (hset : set < 2 ^ 31) {x : Int32} (hx : x = nI set) (h : σ 0 8 < rdS σ set) : Ret m_r_looks [vR 19 0 48, vI x] (some (vI (-(nI 1)))) c (MRc nb db by_ rs) mj mk (u2 (u2 mj 48 44 (mj 48 44 + nI 1)) 48 45 (mj 48 45 + nI 1)) mk := by
  have hrd := rdS_bd hW set
  have htp := hW.tp
  refine g_r_looks_0 ⟨_, R_thr' (mj := u2 mj 48 44 (mj 48 44 + nI 1)) hW hs hB hset hx, fun g => ⟨rfl, rfl, rfl⟩, fun g => absurd ?_ g⟩
  rw [hs.2.1, hs.2.2, zI_add, zI_lt ⟨by omega, by omega⟩ ⟨by unfold rdS at hrd; omega, by unfold rdS at hrd; omega⟩]
  exact h
end
