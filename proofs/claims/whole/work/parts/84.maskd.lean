/-! ===== masks: the calls solved, factor, shareBy, fewer ===== -/
theorem lw_id {x s : Int} (hs : 0 < s) : lU (lU x s) (lL x s) = lU x s ∧ lL (lU x s) (lL x s) = lL x s :=
  lw_eq (lL_pos hs) hs lw_rat
theorem frL_0 {u d : Int} {w : Int32} (h : w = 0) : frL u d w = zL (lU u d) := if_pos h
theorem frL_1 {u d : Int} {w : Int32} (h : ¬ w = 0) : frL u d w = zL (lL u d) := if_neg h
section
variable {nb db b : Nat} {by_ rs : RX} {c : Nat} {σ : SG} {mi mj m : MI} {ml mk l : ML} {x y z : Int32}
theorem XT_bd (hW : WF σ) {t : Nat} (ht : t < rk (muS σ) (kS σ)) (q : Nat) : (XX (vsS (muS σ) (thT σ) (kS σ)) (psS (muS σ) (thT σ) (kS σ)) t q).natAbs ≤ 7484400 * 309969 := by
  have ok := mS_ok (muS σ) (thT σ) (kS σ)
  have hK := kS_12 hW
  have h1 := XX_bd (vs := vsS (muS σ) (thT σ) (kS σ)) (ps := psS (muS σ) (thT σ) (kS σ)) (vsS_ok (thT_bd hW) (Nat.le_refl _)) (fun q' hq' => by have := ok.2.2.2.1 q' hq'; omega) ok.2.1 (t := t) (by rw [psS_T]; exact ht) q
  exact Nat.le_trans h1 (Nat.mul_le_mul (bb_12 _ (by omega)) (wt_le q).2)
/-- the reference tells a row's entry in lowest terms -/
theorem R_entry {S X : Int} (hS : 0 < S) (hSb : S ≤ 7484400) (hX : X.natAbs ≤ 7484400 * 309969) {p q : Int64} (hp : p = zL (lU X S)) (hq : q = zL (lL X S)) : Ret m_r_sets [vR 19 0 48, vL p, vL q] none c (MRc nb db by_ rs) m l m (u2 (u2 l 48 3 (zL (lU X S))) 48 4 (zL (lL X S))) := by
  have h1 := lU_le (x := X) hS
  have h2 := lL_pos (x := X) hS
  have h3 := lL_le (x := X) hS
  have H := R_sets (nb := nb) (db := db) (by_ := by_) (rs := rs) (c := c) (mi := m) (ml := l) (u := lU X S) (d := lL X S) ⟨by omega, by omega⟩ ⟨h2, by omega⟩ hp hq
  have e := lw_id (x := X) hS
  have e1 : (lU X S).tdiv (gcZ (lU X S) (lL X S)) = lU X S := e.1
  have e2 : (lL X S).tdiv (gcZ (lU X S) (lL X S)) = lL X S := e.2
  rw [e1, e2] at H
  exact H
theorem FL48 {l' l'' : ML} (h : ∀ a, a ≠ 48 → a ≠ 62 → a ≠ 63 → l' a = mk a) (h2 : ∀ a, a ≠ 48 → l'' a = l' a) : FLw mk l'' := fun a ha => by rw [h2 a (by omega)]; exact h a (by omega) (by omega) (by omega)
theorem A_solved (hb : nb = 43 ∧ db = 5 ∨ nb = 5 ∧ db = 43) (I : IC σ nb mi) (M : RCm σ mi ml) (J : IR σ mj) : Agr m_w_solved m_r_solved [vI x, vI y] nb db by_ rs mi ml mj mk := by
  obtain ⟨hW, hs, hB⟩ := J
  by_cases h : InK σ 5 x
  · obtain ⟨j, rfl, hj⟩ := h.nat
    have hj31 := InK.n31 hW hj
    have hr := h.1
    have hbb := hbb_of hb
    have hK := kS_12 hW
    have hms := hW.ms
    have HT := fun c => R_ht (nb := nb) (db := db) (by_ := by_) (rs := rs) (c := c) (ml := ml) hb hW I.2.1.1 (fun z => (I.2.2 z).1) h rfl hj31 (M hr).2.1
    intro c
    obtain ⟨m', l', L1, L2, L3⟩ := LAYS (nb := nb) (db := db) (by_ := by_) (rs := rs) (c := c) (mk := mk) hW hr hs hB
    have HI := R_is_t (nb := nb) (db := db) (by_ := by_) (rs := rs) (c := c) (mk := mk) hW (RMs_th hs (nI 0)) h
    cases e : tlB (muS σ) (kS σ) (kS σ) j with
    | false =>
      have HT := HT c
      rw [e, if_neg (by decide)] at HT
      exact ⟨vL (-(lN 9223372036854775808)), 5, _, _, l', by decide, by decide, g_w_solved_0 hb ⟨_, _, _, HT, fun g => absurd rfl g, fun _ => ⟨rfl, rfl, rfl⟩⟩, g_r_solved_0 ⟨_, HI, fun _ => ⟨_, _, L1, _, R_rowOf_f hK L2.1 hj31 e rfl, fun g => absurd rfl g, fun _ => ⟨rfl, rfl, rfl⟩⟩, fun g => absurd g n10⟩, FCw.one _ _, FRw.ag L2.2.2 5, FLw.of3 L3, rfl⟩
    | true =>
      have HT := HT c
      rw [e, if_pos rfl] at HT
      obtain ⟨q, q1, q2, q3, q4⟩ := (M hr).2.2 j hj31 e
      have hrk := rk_lt q1 q2
      have hrk2 := rk_i (μ := muS σ) (kS σ)
      have sb := SSb (μ := muS σ) hK
      have hBn := (I.2.2 hr).w hbb (nI 0)
      have h4 : u2 mi 1 9 (nI 0) nb 4 = nI (kS σ) := by rw [hBn.2.2.2.2.1, kS_z hW]
      have hm4 : ∀ q, q < kS σ → u2 mi 1 9 (nI 0) (nb + 4) q = nI (muS σ q) := fun q hq => by rw [hBn.mk (by unfold kS at hq; omega), muS_z hW hq]
      have hM := ((M hr).1.2.2 q q1).1 j q2
      have e20 : u2 mi 1 9 (nI 0) 20 (nI j).toNatClampNeg = nI q := by rw [u2_o _ _ (by decide), cl31 hj31, q4]
      have hsum := R_sumOf (nb := nb) (db := db) (by_ := by_) (rs := rs) (c := c) (mi := u2 mi 1 9 (nI 0)) (ml := ml) (μ := muS σ) (F := fun k => XX (vsS (muS σ) z0 (kS σ)) (psS (muS σ) z0 (kS σ)) (rk (muS σ) q) (31 + k)) hbb hW hBn h4 hK hm4 (muS_31 hW) (show q < 12 by omega) (fun k hk => hM.2 (31 + k) (by omega)) e20
      have e43 : sumZ (fun k => XX (vsS (muS σ) z0 (kS σ)) (psS (muS σ) z0 (kS σ)) (rk (muS σ) q) (31 + k) * thr σ (muS σ k)) (kS σ) = XX (vsS (muS σ) (thT σ) (kS σ)) (psS (muS σ) (thT σ) (kS σ)) (rk (muS σ) q) 43 := (XX_43 hK hrk).symm
      rw [e43] at hsum
      have xb := XT_bd hW hrk 43
      have hpart := R_part (nb := nb) (db := db) (by_ := by_) (rs := rs) (c := c) (mi := u2 mi 1 9 (nI 0)) (ml := ml) (u := XX (vsS (muS σ) (thT σ) (kS σ)) (psS (muS σ) (thT σ) (kS σ)) (rk (muS σ) q) 43) (d := SS (vsS (muS σ) z0 (kS σ)) (psS (muS σ) z0 (kS σ))) ⟨by omega, by omega⟩ ⟨sb.1, by omega⟩ rfl (M hr).1.1 (lower := y)
      obtain ⟨-, -, hrows⟩ := RS_z rfl rfl L2.1
      have he := hrows (rk (muS σ) q) hrk 31 (by decide)
      have i1 : nI 44 * nI (rk (muS σ) q) + nI 31 = nI (44 * rk (muS σ) q + 31) := i44 rfl rfl
      have v1 : vp_in (nI 44 * nI (rk (muS σ) q) + nI 31) 528 := ixn i1 (by omega) (by decide)
      have c1 : (nI 44 * nI (rk (muS σ) q) + nI 31).toNatClampNeg = 44 * rk (muS σ) q + 31 := cln i1 (by omega)
      have hent := R_entry (nb := nb) (db := db) (by_ := by_) (rs := rs) (c := c) (m := m') (l := l') (S := SS (vsS (muS σ) z0 (kS σ)) (psS (muS σ) z0 (kS σ))) (X := XX (vsS (muS σ) (thT σ) (kS σ)) (psS (muS σ) (thT σ) (kS σ)) (rk (muS σ) q) 43) (p := l' 62 (nI 44 * nI (rk (muS σ) q) + nI 31).toNatClampNeg) (q := l' 63 (nI 44 * nI (rk (muS σ) q) + nI 31).toNatClampNeg) sb.1 sb.2 xb (by rw [c1]; exact he.1) (by rw [c1]; exact he.2)
      refine ⟨vL (frL (XX (vsS (muS σ) (thT σ) (kS σ)) (psS (muS σ) (thT σ) (kS σ)) (rk (muS σ) q) 43) (SS (vsS (muS σ) z0 (kS σ)) (psS (muS σ) z0 (kS σ))) y), 0, _, _, _, by decide, by decide, g_w_solved_0 hb ⟨_, _, _, HT, fun _ => ⟨in31 hj31, _, hsum, _, hpart, rfl, rfl, rfl⟩, fun g => absurd g (by decide)⟩, g_r_solved_0 ⟨_, HI, fun _ => ⟨_, _, L1, _, R_rowOf_t hK L2.1 q1 q2 q3 rfl, fun _ => ⟨v1, v1, _, _, hent, fun g => ⟨?_, rfl, rfl⟩, fun g => ⟨?_, rfl, rfl⟩⟩, fun g => absurd g (nI_m1 (by omega))⟩, fun g => absurd g n10⟩, FCw.one _ _, FRw.ag L2.2.2 0, FL48 L3 (fun a ha => by rw [u2_o _ _ ha, u2_o _ _ ha]), rfl⟩
      · rw [frL_0 g]; rfl
      · rw [frL_1 g]; rfl
  · exact Agr.mk (vL (-(lN 9223372036854775808))) 1 (by decide) (fun c => g_w_solved_0 hb ⟨_, _, _, R_ht_n hb hW I.2.1.1 (fun z => (I.2.2 z).1) h, fun g => absurd rfl g, fun _ => ⟨rfl, rfl, rfl⟩⟩) (fun c => g_r_solved_0 ⟨_, R_is_f hW (RMs_th hs _) h, fun g => absurd rfl g, fun _ => ⟨rfl, rfl, rfl⟩⟩)
theorem A_factor (hb : nb = 43 ∧ db = 5 ∨ nb = 5 ∧ db = 43) (I : IC σ nb mi) (M : RCm σ mi ml) (J : IR σ mj) : Agr m_w_factor m_r_factor [vI x, vI z, vI y] nb db by_ rs mi ml mj mk := by
  obtain ⟨hW, hs, hB⟩ := J
  have hms := hW.ms
  have c4 : σ 0 0 = 1 → mi nb 4 = zI (σ 0 9) := fun z => (I.2.2 z).2.2.2.2.1
  by_cases h : InK σ 5 x
  · have hr := h.1
    have HI := fun c => R_is_t (nb := nb) (db := db) (by_ := by_) (rs := rs) (c := c) (mk := mk) hW (RMs_th hs (nI 0)) h
    by_cases h9 : InK σ 9 z
    · obtain ⟨j, rfl, hj⟩ := h.nat
      obtain ⟨k, rfl, hk9⟩ := h9.nat
      have hj31 := InK.n31 hW hj
      have hK := kS_12 hW
      have hk : k < kS σ := by unfold kS; omega
      have ki := h9.fac (by omega) I.2.1.1 c4
      have kz0 : ¬ nI k < 0 := ki.2.1
      have kz9 : nI k < mj 48 9 := by rw [hs.2.2.2.1, kS_z hW, nI_ltI (by omega) (by omega)]; exact hk
      have HT := fun c => R_ht (nb := nb) (db := db) (by_ := by_) (rs := rs) (c := c) (mi := u2 mi 1 9 (nI 0)) (ml := ml) hb hW I.2.1.1 (fun z => by
        have := ((I.2.2 z).w (hbb_of hb) (nI 0)).1
        exact this) h rfl hj31 (M hr).2.1
      intro c
      obtain ⟨m', l', L1, L2, L3⟩ := LAYS (nb := nb) (db := db) (by_ := by_) (rs := rs) (c := c) (mk := mk) hW hr hs hB
      cases e : tlB (muS σ) (kS σ) (kS σ) j with
      | false =>
        have HT := HT c
        rw [e, if_neg (by decide), u2_u2] at HT
        exact ⟨vL (-(lN 9223372036854775808)), 5, _, _, l', by decide, by decide, g_w_factor_0 hb (in3_t ki ⟨_, _, _, HT, fun g => absurd rfl g, fun _ => ⟨rfl, rfl, rfl⟩⟩), g_r_factor_0 ⟨_, HI c, fun g => absurd g n10, fun _ => ⟨fun g => absurd g kz0, fun _ => ⟨fun _ => ⟨_, _, L1, _, R_rowOf_f hK L2.1 hj31 e rfl, fun g => absurd rfl g, fun _ => ⟨rfl, rfl, rfl⟩⟩, fun g => absurd kz9 g⟩⟩⟩, FCw.one _ _, FRw.ag L2.2.2 5, FLw.of3 L3, rfl⟩
      | true =>
        have HT := HT c
        rw [e, if_pos rfl, u2_u2] at HT
        obtain ⟨q, q1, q2, q3, q4⟩ := (M hr).2.2 j hj31 e
        have hrk := rk_lt q1 q2
        have hrk2 := rk_i (μ := muS σ) (kS σ)
        have sb := SSb (μ := muS σ) hK
        have hM := ((M hr).1.2.2 q q1).1 j q2
        have e20 : u2 mi 1 9 (nI 0) 20 (nI j).toNatClampNeg = nI q := by rw [u2_o _ _ (by decide), cl31 hj31, q4]
        have nq0 : ¬ u2 mi 1 9 (nI 0) 20 (nI j).toNatClampNeg < 0 := by rw [e20]; exact fun g => absurd ((nI_ltI (by omega) (by decide)).mp (show nI q < nI 0 from g)) (by omega)
        have nq12 : ¬ nI 12 ≤ u2 mi 1 9 (nI 0) 20 (nI j).toNatClampNeg := by rw [e20, nI_leN (by decide) (by omega)]; omega
        have k12 : nI k < nI 12 := by rw [nI_ltI (by omega) (by decide)]; omega
        have e31 : nI 31 + nI k = nI (31 + k) := nI_add _ _
        have hv : ml (22 + q) (nI 31 + nI k).toNatClampNeg = zL (XX (vsS (muS σ) z0 (kS σ)) (psS (muS σ) z0 (kS σ)) (rk (muS σ) q) (31 + k)) := by rw [cln e31 (by omega)]; exact hM.2 (31 + k) (by omega)
        have xb := XXb (μ := muS σ) hK hrk (show 31 + k < 43 by omega)
        have hpart := R_part (nb := nb) (db := db) (by_ := by_) (rs := rs) (c := c) (mi := u2 mi 1 9 (nI 0)) (ml := ml) (u := XX (vsS (muS σ) z0 (kS σ)) (psS (muS σ) z0 (kS σ)) (rk (muS σ) q) (31 + k)) (d := SS (vsS (muS σ) z0 (kS σ)) (psS (muS σ) z0 (kS σ))) ⟨by omega, by omega⟩ ⟨sb.1, by omega⟩ hv (M hr).1.1 (lower := y)
        obtain ⟨-, -, hrows⟩ := RS_z rfl rfl L2.1
        have he := hrows (rk (muS σ) q) hrk (32 + k) (by omega)
        have ecc : XX (vsS (muS σ) (thT σ) (kS σ)) (psS (muS σ) (thT σ) (kS σ)) (rk (muS σ) q) (cc (32 + k)) = XX (vsS (muS σ) z0 (kS σ)) (psS (muS σ) z0 (kS σ)) (rk (muS σ) q) (31 + k) := by rw [cc_hi (by omega), XX_T (by omega), show 32 + k - 1 = 31 + k by omega]
        have he : l' 62 (44 * rk (muS σ) q + (32 + k)) = zL (lU (XX (vsS (muS σ) (thT σ) (kS σ)) (psS (muS σ) (thT σ) (kS σ)) (rk (muS σ) q) (cc (32 + k))) (SS (vsS (muS σ) z0 (kS σ)) (psS (muS σ) z0 (kS σ)))) ∧ l' 63 (44 * rk (muS σ) q + (32 + k)) = zL (lL (XX (vsS (muS σ) (thT σ) (kS σ)) (psS (muS σ) (thT σ) (kS σ)) (rk (muS σ) q) (cc (32 + k))) (SS (vsS (muS σ) z0 (kS σ)) (psS (muS σ) z0 (kS σ)))) := he
        rw [ecc] at he
        have i1 : nI 44 * nI (rk (muS σ) q) + nI 32 + nI k = nI (44 * rk (muS σ) q + (32 + k)) := by rw [pk_mul, nI_add, nI_add, Nat.add_assoc]
        have v1 : vp_in (nI 44 * nI (rk (muS σ) q) + nI 32 + nI k) 528 := ixn i1 (by omega) (by decide)
        have c1 : (nI 44 * nI (rk (muS σ) q) + nI 32 + nI k).toNatClampNeg = 44 * rk (muS σ) q + (32 + k) := cln i1 (by omega)
        have hent := R_entry (nb := nb) (db := db) (by_ := by_) (rs := rs) (c := c) (m := m') (l := l') (S := SS (vsS (muS σ) z0 (kS σ)) (psS (muS σ) z0 (kS σ))) (X := XX (vsS (muS σ) z0 (kS σ)) (psS (muS σ) z0 (kS σ)) (rk (muS σ) q) (31 + k)) (p := l' 62 (nI 44 * nI (rk (muS σ) q) + nI 32 + nI k).toNatClampNeg) (q := l' 63 (nI 44 * nI (rk (muS σ) q) + nI 32 + nI k).toNatClampNeg) sb.1 sb.2 (by omega) (by rw [c1]; exact he.1) (by rw [c1]; exact he.2)
        refine ⟨vL (frL (XX (vsS (muS σ) z0 (kS σ)) (psS (muS σ) z0 (kS σ)) (rk (muS σ) q) (31 + k)) (SS (vsS (muS σ) z0 (kS σ)) (psS (muS σ) z0 (kS σ))) y), 0, _, _, _, by decide, by decide, g_w_factor_0 hb (in3_t ki ⟨_, _, _, HT, fun _ => ⟨in31 hj31, fun g => absurd g nq0, fun _ => ⟨fun g => absurd g nq12, fun _ => ⟨fun g => absurd g kz0, fun _ => ⟨fun _ => ⟨q, e20, by omega, ixn e31 (by omega) (by decide), _, hpart, rfl, rfl, rfl⟩, fun g => absurd k12 g⟩⟩⟩⟩, fun g => absurd g (by decide)⟩), g_r_factor_0 ⟨_, HI c, fun g => absurd g n10, fun _ => ⟨fun g => absurd g kz0, fun _ => ⟨fun _ => ⟨_, _, L1, _, R_rowOf_t hK L2.1 q1 q2 q3 rfl, fun _ => ⟨v1, v1, _, _, hent, fun g => ⟨?_, rfl, rfl⟩, fun g => ⟨?_, rfl, rfl⟩⟩, fun g => absurd g (nI_m1 (by omega))⟩, fun g => absurd kz9 g⟩⟩⟩, FCw.one _ _, FRw.ag L2.2.2 0, FL48 L3 (fun a ha => by rw [u2_o _ _ ha, u2_o _ _ ha]), rfl⟩
        · rw [frL_0 g]; rfl
        · rw [frL_1 g]; rfl
    · have nk := nInK.fac (rd_01 hW) hms.1 (by omega) I.2.1.1 c4 h9
      have nr : z < 0 ∨ ¬ z < mj 48 9 := by
        have := nInK.fac (m := mj 48 9) (x := mj 48 26) (rd_01 hW) hms.1 (by omega) hs.rd (fun _ => hs.2.2.2.1) h9
        rcases this with g | g | g
        · rw [hs.rd, hr] at g; exact absurd g (by decide)
        · exact Or.inl g
        · exact Or.inr (i32_nlt.mpr g)
      exact Agr.mk (vL (-(lN 9223372036854775808))) 1 (by decide) (fun c => g_w_factor_0 hb (in3_f nk ⟨rfl, rfl, rfl⟩)) (fun c => g_r_factor_0 ⟨_, HI c, fun g => absurd g n10, fun _ => ⟨fun _ => ⟨rfl, rfl, rfl⟩, fun g1 => ⟨fun g2 => by rcases nr with z | z <;> contradiction, fun _ => ⟨rfl, rfl, rfl⟩⟩⟩⟩)
  · have HI := fun c => R_is_f (nb := nb) (db := db) (by_ := by_) (rs := rs) (c := c) (mk := mk) hW (RMs_th hs (nI 0)) h
    refine Agr.mk (vL (-(lN 9223372036854775808))) 1 (by decide) (fun c => ?_) (fun c => g_r_factor_0 ⟨_, HI c, fun _ => ⟨rfl, rfl, rfl⟩, fun g => absurd rfl g⟩)
    have HT := R_ht_n (nb := nb) (db := db) (by_ := by_) (rs := rs) (c := c) (mi := u2 mi 1 9 (nI 0)) (ml := ml) hb hW I.2.1.1 (fun z => by
        have := ((I.2.2 z).w (hbb_of hb) (nI 0)).1
        exact this) h
    rw [u2_u2] at HT
    exact g_w_factor_0 hb ⟨fun _ => ⟨rfl, rfl, rfl⟩, fun _ => ⟨fun _ => ⟨rfl, rfl, rfl⟩, fun _ => ⟨fun _ => ⟨rfl, rfl, rfl⟩, fun _ => ⟨_, _, _, HT, fun g => absurd rfl g, fun _ => ⟨rfl, rfl, rfl⟩⟩⟩⟩⟩
end
