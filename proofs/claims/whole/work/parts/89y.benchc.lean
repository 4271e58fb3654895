/-! ===== bench: class and reference answer alike ===== -/
def mxS (γ0 γ1 : SG) : SG := fun z => if z = 4 then γ0 4 else γ1 z
theorem WF.mx {γ0 γ1 : SG} (h : WF γ1) (e : ∀ i : Nat, (i : Int) < γ1 0 9 → γ0 4 i = γ1 4 i) : WF (mxS γ0 γ1) := by
  obtain ⟨a1, a2, a3, a4, a5, a6, a7, a8, a9, a10, a11, a12, a13, a14⟩ := h
  refine ⟨a1, a2, a3, a4, a5, a6, a7, a8, a9, a10, a11, a12, fun i hi => ?_, a14⟩
  show 0 < γ0 4 i ∧ γ0 4 i < 2 ^ (γ1 0 5).toNat
  have hi : (i : Int) < γ1 0 9 := hi
  rw [e i hi]; exact a13 i hi
theorem CTb.fr2 {μ : Nat → Nat} {K : Nat} {mi mi' : MI} {ml ml' : ML} (hK : K ≤ 12) (h : CTb μ K mi ml) (e19 : mi' 19 = mi 19) (e20 : mi' 20 = mi 20) (e34 : mi' 34 = mi 34) (e' : ∀ a, 19 ≤ a → a ≤ 33 → ml' a = ml a) : CTb μ K mi' ml' := by
  obtain ⟨⟨h1, h2, h3⟩, h4, h5⟩ := h
  refine ⟨⟨by rw [e' 19 (by decide) (by decide)]; exact h1, by rw [e19]; exact h2, fun q hq => ?_⟩, by rw [e19]; exact h4, fun j hj ht => ?_⟩
  · rw [e34, e' (22 + q) (by omega) (by omega)]; exact h3 q hq
  · obtain ⟨q, g1, g2, g3, g4⟩ := h5 j hj ht
    exact ⟨q, g1, g2, g3, by rw [e20]; exact g4⟩
theorem WF.mk31 {γ : SG} (h : WF γ) {i : Nat} (hi : (i : Int) < γ 0 9) : 0 ≤ γ 4 i ∧ γ 4 i < 2147483648 ∧ (γ 4 i).toNat < 2 ^ (γ 0 5).toNat := by
  have h13 := h.2.2.2.2.2.2.2.2.2.2.2.2.1 i hi
  have hnn := h.nn
  rw [p2Z] at h13
  have := p31 (show (γ 0 5).toNat ≤ 31 by omega)
  omega
section
variable {f c : Nat} {s : Nat → Int32} {mr : MR} {mi : MI} {ml : ML} {x : Int32}
theorem C_bench (H : LI f s c mr mi ml) : Ok m_w_bench 0 0 (vR 10 0 1 :: [vI x]) (CallQ m_w_bench m_r_bench [vI x] s (LI f s)) c mr mi ml := by
  obtain ⟨σ, nb, db, by_, rn, rc, hb, rfl, F, R, M, T, hrc, hc, hf, hs⟩ := H
  have hW := F.1.1
  have htl := hW.tl
  obtain ⟨L, hL⟩ : ∃ L : Nat, σ 0 4 = L := ⟨(σ 0 4).toNat, by omega⟩
  have c1 : mi 2 1 = nI L := by rw [F.1.2.1.2.2.2.2.1, hL]; rfl
  have r1 : mi 48 32 = nI L := by rw [R.1.2.1.2.2.2.2.2.2.1, hL]; rfl
  by_cases hx : x < 0 ∨ ¬ x ≤ mi 2 1
  · refine Call.adv1 hb F R M T hrc hc hf hs (fun mj mk Rj => Adv.ofA hb F Rj (fun c => ⟨vI (-(nI 1)), 2, u2 mi 1 9 (nI 2), _, mk, by decide, by decide, wb_bad hx, ?_, FCw.one mi 2, FRw.one mj 2, fun _ _ => rfl, rfl⟩))
    have rj : mj 48 32 = mi 2 1 := by rw [Rj.1.2.1.2.2.2.2.2.2.1, c1, hL]; rfl
    exact g_r_bench_0 ⟨fun _ => ⟨rfl, rfl, rfl⟩, fun h0 => ⟨fun z => absurd (by rw [← rj]; exact z) (hx.resolve_left h0), fun _ => ⟨rfl, rfl, rfl⟩⟩⟩
  · have hx0 : ¬ x < 0 := fun z => hx (Or.inl z)
    have hx1 : x ≤ mi 2 1 := Decidable.of_not_not (fun z => hx (Or.inr z))
    obtain ⟨e, ex, heL⟩ : ∃ e : Nat, x = nI e ∧ e ≤ L := by
      have h0 : 0 ≤ x.toInt := by
        rw [Int32.lt_iff_toInt_lt] at hx0
        have : (0 : Int32).toInt = 0 := rfl
        omega
      have h1 : x.toInt ≤ L := by
        rw [c1, Int32.le_iff_toInt_le, nI_toInt (by omega)] at hx1
        exact hx1
      exact ⟨x.toInt.toNat, by rw [nI_z, Int.toNat_of_nonneg h0]; exact zI_of x, by omega⟩
    have he : e ≤ 800 := by omega
    have ht : ∀ k, (fun k => (σ 8 k).toNat) k ≤ 255 := fun k => by
      have := hW.tb k
      show (σ 8 k).toNat ≤ 255
      omega
    have T3 : ∀ k, k < e → mi 3 k = nI ((fun k => (σ 8 k).toNat) k) := fun k hk => by
      rw [F.1.2.1.2.2.2.2.2.1 k (by omega)]; exact z_nat (hW.tb k).1
    have T7 : ∀ m : MI, m 57 = mi 57 → ∀ k, k < e → PR x m 57 k &&& nI 255 = nI ((fun k => (σ 8 k).toNat) k) := fun m hm k hk => by
      rw [PR_o (by decide), hm, R.1.2.1.2.2.2.2.2.2.2.2.2.2.2.2.1 k (by omega), z_nat (hW.tb k).1]
      exact by255 _ (by have := hW.tb k; omega)
    have h33 : ∀ m : MI, PR x m 48 33 = nI e := fun m => by rw [PR_z.1, ex]
    have h34 : ∀ m : MI, PR x m 48 34 = nI 0 := fun m => PR_z.2.2.1
    have h38 : ∀ m : MI, PR x m 48 38 = nI 0 := fun m => PR_z.2.2.2
    generalize (fun k => (σ 8 k).toNat) = t at ht T3 T7
    obtain ⟨r0, m0, mj0, mk0, C0, -, fr0, -, E0⟩ := RD_J (nc := nb) (dc := db) (by_ := by_) (rs := some (0, rn, rc)) (c := c) (ml := ml) (mj := PR x mi) (mk := ml) hb he ht ex T3 (T7 mi rfl) (h33 mi) (h34 mi) (h38 mi)
    rcases E0 with ⟨er0, γ0, lit0, nsy0, hr0, W0, P0, -, -, -⟩ | ⟨er0, -⟩
    · subst er0
      have hnn0 := W0.1.nn
      have hms0 := W0.1.ms
      have hdb : db = 5 ∨ db = 43 := by omega
      obtain ⟨m2, l2, B, CT, fm, fl⟩ := R_build (nb := db) (db := nb) (by_ := some (0, 800, 3)) (rs := some (0, rn, rc)) (c := c) (ml := ml) (mi := MB m0) (b := db) (N := (γ0 0 5).toNat) (K := kS γ0) (μ := muS γ0) (by omega) (by omega) (by rw [MB_o (by omega) (by omega) (by omega) (by omega), P0.1.1]; exact z_nat hnn0.1) (by rw [MB_o (by omega) (by omega) (by omega) (by omega), P0.1.2.2.2.2.1]; exact z_nat hms0.1)
        (fun q hq => by
          have hq : (q : Int) < γ0 0 9 := by unfold kS at hq; omega
          rw [MB_o (by omega) (by omega) (by omega) (by omega), P0.1.2.2.2.2.2.2.2.2.2.2.2 q hq]; exact z_nat (W0.1.mk31 hq).1)
        (fun q hq => by
          have hq : (q : Int) < γ0 0 9 := by unfold kS at hq; omega
          exact (W0.1.mk31 hq).2.2) (kS_12 W0.1)
      have fm2 : ∀ z, z ≠ 1 → z ≠ 2 → z ≠ 4 → z ≠ 11 → z ≠ 39 → z ≠ 19 → z ≠ 20 → z ≠ 34 → z ≠ 35 → z < db ∨ db + 4 < z → (u2 m2 35 0 (nI 0)) z = mi z := fun z h1 h2 h4 h11 h39 h19 h20 h34 h35 hz => by
        rw [u2_o _ _ h35, fm z h19 h20 h34, MB_o h1 h2 h11 h39, fr0 z h4 hz]
      have OR := RD_pair (nc := db) (dc := nb) (mj := PR x (u2 m2 35 0 (nI 0))) (mk := l2) hb he ht ex T3 C0 (T7 _ (fm2 57 (by decide) (by decide) (by decide) (by decide) (by decide) (by decide) (by decide) (by decide) (by decide) (by omega))) (h33 _) (h34 _) (h38 _)
      refine wb_ok (B0 := fun _ _ => False) (B1 := fun m' l' => m' = m0 ∧ l' = ml ∧ ∃ mj' mk', Ret m_r_readAll [vR 19 0 48] none c (MRc db nb (some (0, 800, 3)) (some (0, rn, rc))) (PR x (u2 m2 35 0 (nI 0))) l2 mj' mk' ∧ FLr (PR x (u2 m2 35 0 (nI 0))) mj' l2 mk' ∧ RAf db (nI 1) m0 mj') hb hx0 hx1 (OR.mono (fun r c' mr' m' l' h => ⟨h.1, h.2.1, Or.inr ⟨h.2.2.2.2.1, h.2.2.1, h.2.2.2.1, h.2.2.2.2.2⟩⟩)) (fun _ _ z => z.elim) (fun m' l' h => ?_)
      obtain ⟨rfl, rfl, mj', mk', D, FL, E⟩ := h
      refine ⟨m2, l2, B, (fm2 0 (by decide) (by decide) (by decide) (by decide) (by decide) (by decide) (by decide) (by decide) (by decide) (by omega) ▸ hs), vI (m2 db 0), rfl, rfl, ?_⟩
      rcases E with ⟨-, γ1, lit1, nsy1, hr1, W1, B1, R1, k38, k40⟩ | ⟨z, -⟩
      · obtain ⟨m5, O, ⟨o5, o6, o7, o8, o9, o26, o30, o43, o44, o45, o46⟩, ⟨o32, o38⟩, oB, o54, oz⟩ := RT_over (nb := db) (db := nb) (by_ := some (0, 800, 3)) (rs := some (0, rn, rc)) (c := c) (mk := mk') hr1 W1 R1
        have hnn1 := W1.1.nn
        have hms1 := W1.1.ms
        have e9 : γ0 0 9 = γ1 0 9 := zI_in (by rw [← P0.1.2.2.2.2.1, ← B1.2.2.2.2.1]) (by omega) (by omega)
        have e4 : ∀ i : Nat, (i : Int) < γ1 0 9 → γ0 4 i = γ1 4 i := fun i hi => by
          have a0 := W0.1.mk31 (i := i) (by omega)
          have a1 := W1.1.mk31 hi
          exact zI_in (by rw [← P0.1.2.2.2.2.2.2.2.2.2.2.2 i (by omega), ← B1.2.2.2.2.2.2.2.2.2.2.2 i hi]) ⟨a0.1, a0.2.1⟩ ⟨a1.1, a1.2.1⟩
        have hWn : WF (mxS γ0 γ1) := W1.1.mx e4
        have np : mj' 48 38 ≤ 0 := by rw [k38]; decide
        have x32 : x ≤ (u2 m2 35 0 (nI 0)) 48 32 := by
          rw [fm2 48 (by decide) (by decide) (by decide) (by decide) (by decide) (by decide) (by decide) (by decide) (by decide) (by omega), r1, ← c1]; exact hx1
        have q48 : ∀ k, k ≠ 1 → k ≠ 2 → (u2 (u2 m5 48 1 (nI 0)) 48 2 (-(nI 1))) 48 k = m5 48 k := fun k h1 h2 => by rw [u2_ne2 _ _ (Or.inr h2), u2_ne2 _ _ (Or.inr h1)]
        have qz : ∀ z, z ≠ 48 → (u2 (u2 m5 48 1 (nI 0)) 48 2 (-(nI 1))) z = m5 z := fun z h => by rw [u2_o _ _ h, u2_o _ _ h]
        have qc : ∀ z, z < 48 → (u2 (u2 m5 48 1 (nI 0)) 48 2 (-(nI 1))) z = (u2 m2 35 0 (nI 0)) z := fun z h => by
          rw [qz z (by omega), oz z (by omega) (by omega) (by omega) (by omega) (by omega), FL.1 z (by omega) (by omega) (by omega) (by omega), PR_o (by omega)]
        have qm : ∀ z, z < 48 → z ≠ 19 → z ≠ 20 → z ≠ 34 → z ≠ 35 → (u2 (u2 m5 48 1 (nI 0)) 48 2 (-(nI 1))) z = MB m' z := fun z h h1 h2 h3 h4 => by
          rw [qc z h, u2_o _ _ h4, fm z h1 h2 h3]
        have qd : ∀ z, db ≤ z → z ≤ db + 4 → (u2 (u2 m5 48 1 (nI 0)) 48 2 (-(nI 1))) z = m' z := fun z h1 h2 => by
          rw [qm z (by omega) (by omega) (by omega) (by omega) (by omega), MB_o (by omega) (by omega) (by omega) (by omega)]
        obtain ⟨v8, v9, v10, v2, v0, v1, vl, vs, v39⟩ := MB_v (m := m')
        have m1 := qm 1 (by decide) (by decide) (by decide) (by decide) (by decide)
        have m11 := qm 11 (by decide) (by decide) (by decide) (by decide) (by decide)
        have FCn : FC (mxS γ0 γ1) db (u2 (u2 m5 48 1 (nI 0)) 48 2 (-(nI 1))) mk' := by
          refine FC.new hWn hr1 W1.2.1 ?_ (by rw [m1]; exact v8) (by rw [m1]; exact v9) (by rw [m1, v10]; exact k40) (by rw [qm 2 (by decide) (by decide) (by decide) (by decide) (by decide)]; exact v2) (by rw [m11]; exact v0) (by rw [m11]; exact v1) (by rw [m11]; exact vl) (by rw [m11]; exact vs) (by rw [qm 39 (by decide) (by decide) (by decide) (by decide) (by decide)]; exact v39)
          obtain ⟨q0, q1, q2, q3, q4, q5, q6, q7, q8, q9, q10, q11⟩ := B1
          refine ⟨by rw [qd db (by omega) (by omega)]; exact q0, by rw [qd db (by omega) (by omega)]; exact q1, by rw [qd db (by omega) (by omega)]; exact q2, by rw [qd db (by omega) (by omega)]; exact q3, by rw [qd db (by omega) (by omega)]; exact q4, by rw [qd db (by omega) (by omega)]; exact q5, by rw [qd db (by omega) (by omega)]; exact q6, by rw [qd db (by omega) (by omega)]; exact q7, fun i hi => by rw [qd (db + 1) (by omega) (by omega)]; exact q8 i hi, fun i hi => by rw [qd (db + 2) (by omega) (by omega)]; exact q9 i hi, fun i hi => by rw [qd (db + 3) (by omega) (by omega)]; exact q10 i hi, fun i hi => ?_⟩
          have hi : (i : Int) < γ1 0 9 := hi
          rw [qd (db + 4) (by omega) (by omega), q11 i hi, ← e4 i hi]; rfl
        have FRn : FR (mxS γ0 γ1) (u2 (u2 m5 48 1 (nI 0)) 48 2 (-(nI 1))) := by
          refine FR.new hWn hr1 W1.2.1 ?_ (by rw [u2_ne2 _ _ (Or.inr (by decide)), u2_s]) (by rw [u2_s]) (by rw [q48 5 (by decide) (by decide)]; exact o5) (by rw [q48 6 (by decide) (by decide)]; exact o6) (by rw [q48 7 (by decide) (by decide)]; exact o7) (by rw [q48 8 (by decide) (by decide)]; exact o8) (by rw [q48 9 (by decide) (by decide)]; exact o9) (by rw [q48 26 (by decide) (by decide)]; exact o26) (by rw [q48 30 (by decide) (by decide)]; exact o30) (by rw [q48 32 (by decide) (by decide), o32, FL.2.1 32 (by omega)]; exact PR_z.2.1) (by rw [q48 38 (by decide) (by decide), o38]; exact k38) (by rw [q48 43 (by decide) (by decide)]; exact o43) (by rw [q48 44 (by decide) (by decide)]; exact o44) (by rw [q48 45 (by decide) (by decide)]; exact o45) (by rw [q48 46 (by decide) (by decide)]; exact o46) (by rw [qz 54 (by decide)]; exact o54)
          obtain ⟨b1, b2, b3, b4, b5⟩ := oB
          refine ⟨fun i hi => by rw [qz 49 (by decide)]; exact b1 i hi, fun i hi => by rw [qz 54 (by decide)]; exact b2 i hi, fun i hi => by rw [qz 54 (by decide)]; exact b3 i hi, fun i hi => by rw [qz 50 (by decide)]; exact b4 i hi, fun i hi => ?_⟩
          have hi : (i : Int) < γ1 0 9 := hi
          rw [qz 51 (by decide), b5 i hi, ← e4 i hi]; rfl
        have ans : m5 48 5 = m2 db 0 := by
          rw [o5, fm db (by omega) (by omega) (by omega), MB_o (by omega) (by omega) (by omega) (by omega), B1.1]
        have RB : Ret m_r_bench [vR 19 0 48, vI x] (some (vI (m2 db 0))) c (MRc db nb (some (0, 800, 3)) (some (0, rn, rc))) (u2 m2 35 0 (nI 0)) l2 (u2 (u2 m5 48 1 (nI 0)) 48 2 (-(nI 1))) mk' :=
          g_r_bench_0 ⟨fun z => absurd z hx0, fun _ => ⟨fun _ => ⟨_, _, D, fun _ => ⟨_, _, O, by rw [ans], rfl, rfl⟩, fun z => absurd np z⟩, fun z => absurd x32 z⟩⟩
        refine RB _ ⟨rfl, mxS γ0 γ1, db, nb, some (0, 800, 3), rn, rc, by omega, rfl, FCn, FRn, fun _ => ?_, ⟨Or.inl ?_, fun z => ?_⟩, hrc, hc, hf, ?_⟩
        · have ek : kS (mxS γ0 γ1) = kS γ0 := by
            show (γ1 0 9).toNat = (γ0 0 9).toNat
            rw [e9]
          rw [ek]
          exact CTb.fr2 (kS_12 W0.1) CT (by rw [qc 19 (by decide), u2_o _ _ (by decide)]) (by rw [qc 20 (by decide), u2_o _ _ (by decide)]) (by rw [qc 34 (by decide), u2_o _ _ (by decide)]) (fun a h1 h2 => FL.2.2 a (by omega))
        · rw [qc 35 (by decide), u2_s]; rfl
        · rw [qc 35 (by decide), u2_s] at z; exact absurd z (by decide)
        · rw [qc 0 (by decide), fm2 0 (by decide) (by decide) (by decide) (by decide) (by decide) (by decide) (by decide) (by decide) (by decide) (by omega)]; exact hs
      · exact absurd z (by decide)
    · subst er0
      have fz : ∀ z, z ≠ 1 → z ≠ 2 → z ≠ 4 → z < db ∨ db + 4 < z → MF m0 z = mi z := fun z h1 h2 h4 hz => by rw [MF_o h1 h2, fr0 z h4 hz]
      have OR := RD_pair (nc := nb) (dc := db) (mj := PR x (MF m0)) (mk := ml) hb he ht ex T3 C0 (T7 _ (fz 57 (by decide) (by decide) (by decide) (by omega))) (h33 _) (h34 _) (h38 _)
      refine wb_ok (B1 := fun _ _ => False) (B0 := fun m' l' => m' = m0 ∧ l' = ml ∧ ∃ mj' mk', Ret m_r_readAll [vR 19 0 48] none c (MRc nb db (some (0, 800, 3)) (some (0, rn, rc))) (PR x (MF m0)) ml mj' mk' ∧ FLr (PR x (MF m0)) mj' ml mk' ∧ RAf db (nI 0) m0 mj') hb hx0 hx1 (OR.mono (fun r c' mr' m' l' h => ⟨h.1, h.2.1, Or.inl ⟨h.2.2.2.2.1, h.2.2.1, h.2.2.2.1, h.2.2.2.2.2⟩⟩)) (fun m' l' h => ?_) (fun _ _ z => z.elim)
      obtain ⟨rfl, rfl, mj', mk', D, FL, E⟩ := h
      refine ⟨(fz 0 (by decide) (by decide) (by decide) (by omega) ▸ hs), vI (-(nI 1)), rfl, rfl, ?_⟩
      rcases E with ⟨z, -⟩ | ⟨-, f', a', d0, d1, d3, d4⟩
      · exact absurd z (by decide)
      · have x32 : x ≤ (MF m') 48 32 := by
          rw [fz 48 (by decide) (by decide) (by decide) (by omega), r1, ← c1]; exact hx1
        have qz : ∀ z, z ≠ 48 → (u2 (u2 mj' 48 1 (nI 4)) 48 2 (mj' 48 36)) z = mj' z := fun z h => by rw [u2_o _ _ h, u2_o _ _ h]
        have qk : ∀ k, k ≠ 1 → k ≠ 2 → (u2 (u2 mj' 48 1 (nI 4)) 48 2 (mj' 48 36)) 48 k = mj' 48 k := fun k h1 h2 => by rw [u2_ne2 _ _ (Or.inr h2), u2_ne2 _ _ (Or.inr h1)]
        have qc : ∀ z, z ≠ 48 → z ≠ 52 → z ≠ 53 → z ≠ 55 → (u2 (u2 mj' 48 1 (nI 4)) 48 2 (mj' 48 36)) z = MF m' z := fun z h1 h2 h3 h4 => by
          rw [qz z h1, FL.1 z h1 h2 h3 h4, PR_o h1]
        have qm : ∀ z, z ≠ 48 → z ≠ 52 → z ≠ 53 → z ≠ 55 → z ≠ 1 → z ≠ 2 → z ≠ 4 → z < db ∨ db + 4 < z → (u2 (u2 mj' 48 1 (nI 4)) 48 2 (mj' 48 36)) z = mi z := fun z h1 h2 h3 h4 h5 h6 h7 h8 => by rw [qc z h1 h2 h3 h4, fz z h5 h6 h7 h8]
        obtain ⟨v8, v9, v10, v11, v2⟩ := MF_v (m := m')
        have m1 := qc 1 (by decide) (by decide) (by decide) (by decide)
        have Fn : FC (ftS σ f' a') nb (u2 (u2 mj' 48 1 (nI 4)) 48 2 (mj' 48 36)) l' :=
          F.flt (hbb_of hb) (by rw [m1, v8, fr0 1 (by decide) (by omega)]) (by rw [m1]; exact v9) (by rw [m1, v10]; exact d0) (by rw [m1, v11]; exact d1) (by rw [qc 2 (by decide) (by decide) (by decide) (by decide)]; exact v2) (fun z hz => qm z (by omega) (by omega) (by omega) (by omega) (by omega) (by omega) (by omega) (by omega))
        have Rn : FR (ftS σ f' a') (u2 (u2 mj' 48 1 (nI 4)) 48 2 (mj' 48 36)) := by
          refine R.flt (by rw [u2_ne2 _ _ (Or.inr (by decide)), u2_s]) (by rw [u2_s]; exact d4) (by rw [qk 32 (by decide) (by decide), FL.2.1 32 (by omega)]; exact PR_z.2.1) (by rw [qk 38 (by decide) (by decide)]; exact d3.2.2.1) (fun k hk => ?_) (fun z hz => qm z (by omega) (by omega) (by omega) (by omega) (by omega) (by omega) (by omega) (by omega))
          rw [qk k (by omega) (by omega), FL.2.1 k (by omega), PR_k (by omega) (by omega) (by omega) (by omega) (by omega), fz 48 (by decide) (by decide) (by decide) (by omega)]
        have RB : Ret m_r_bench [vR 19 0 48, vI x] (some (vI (-(nI 1)))) c (MRc nb db (some (0, 800, 3)) (some (0, rn, rc))) (MF m') l' (u2 (u2 mj' 48 1 (nI 4)) 48 2 (mj' 48 36)) mk' :=
          g_r_bench_0 ⟨fun z => absurd z hx0, fun _ => ⟨fun _ => ⟨_, _, D, fun z => absurd z d3.np, fun _ => ⟨rfl, rfl, rfl⟩⟩, fun z => absurd x32 z⟩⟩
        refine RB _ ⟨rfl, ftS σ f' a', nb, db, some (0, 800, 3), rn, rc, hb, rfl, Fn.fr (hbb_of hb) (fun _ _ => rfl) (fun a ha => FL.2.2 a (by omega)), Rn, M.fr hW (ftS_k (by omega)) (ftS_o (by decide)) (ftS_k (by omega)) (fun a h1 h2 => qm a (by omega) (by omega) (by omega) (by omega) (by omega) (by omega) (by omega) (by omega)) (fun a h1 h2 => FL.2.2 a (by omega)), T.fr (ftS_k (by omega)) (ftS_o (by decide)) (ftS_k (by omega)) (qm 35 (by decide) (by decide) (by decide) (by decide) (by decide) (by decide) (by decide) (by omega)) (qm 36 (by decide) (by decide) (by decide) (by decide) (by decide) (by decide) (by decide) (by omega)), hrc, hc, hf, ?_⟩
        rw [qm 0 (by decide) (by decide) (by decide) (by decide) (by decide) (by decide) (by decide) (by omega)]; exact hs
end
