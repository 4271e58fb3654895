/-! ===== tours: the calls ===== -/
section
variable {nb db b : Nat} {by_ rs : RX} {rn rc : Nat} {c : Nat} {σ : SG} {mi mj m m2 : MI} {ml mk l l2 : ML} {x : Int32}
theorem FC.fr3 (hbb : nb = 43 ∨ nb = 5) (F : FC σ nb m2 l2) (e : ∀ a, a < 48 → a < 35 ∨ 38 < a → m a = m2 a) (e' : ∀ a, a < 48 → l a = l2 a) : FC σ nb m l :=
  FC.of hbb F (fun k _ => by rw [e 1 (by decide) (by decide)]) (by rw [e 2 (by decide) (by decide)]) (fun k _ => by rw [e 3 (by decide) (by decide)]) (fun k _ => by rw [e 11 (by decide) (by decide)]) (by rw [e' 11 (by decide)]) (fun k _ => by rw [e 12 (by decide) (by decide)]) (fun k _ => by rw [e 13 (by decide) (by decide)]) (fun k _ => by rw [e 14 (by decide) (by decide)]) (fun k _ => by rw [e 15 (by decide) (by decide)]) (fun k _ => by rw [e' 16 (by decide)]) (by rw [e 39 (by decide) (by decide)]) (fun k _ => by rw [e 40 (by decide) (by decide)]) (fun k _ => by rw [e 41 (by decide) (by decide)]) (fun k _ => by rw [e 42 (by decide) (by decide)]) (fun k _ => by rw [e nb (by omega) (by omega)]) (fun k _ => by rw [e (nb + 1) (by omega) (by omega)]) (fun k _ => by rw [e (nb + 2) (by omega) (by omega)]) (fun k _ => by rw [e (nb + 3) (by omega) (by omega)]) (fun k _ => by rw [e (nb + 4) (by omega) (by omega)])
theorem FR.fr2 (R : FR σ mj) (e : ∀ a, 48 ≤ a → a ≤ 65 → m a = mj a) : FR σ m := by
  obtain ⟨⟨hW, ⟨a1, a2, a3, a4, a5, a6, a7, a8, a9, a10, a11, a12, a13, a14, a15⟩, hB⟩, hl, hN, hP⟩ := R
  have e48 := e 48 (by decide) (by decide)
  refine ⟨⟨hW, ⟨by rw [e48]; exact a1, by rw [e48]; exact a2, by rw [e48]; exact a3, by rw [e48]; exact a4, by rw [e48]; exact a5, by rw [e48]; exact a6, by rw [e48]; exact a7, by rw [e48]; exact a8, by rw [e48]; exact a9, by rw [e48]; exact a10, by rw [e48]; exact a11, by rw [e48]; exact a12, fun k hk => by rw [e 57 (by decide) (by decide)]; exact a13 k hk, fun hr => by rw [e48]; exact a14 hr, by rw [e 54 (by decide) (by decide)]; exact a15⟩, hB.eq (fun a ha => e a (by omega) (by omega))⟩, fun i hi => by rw [e 58 (by decide) (by decide), e 59 (by decide) (by decide)]; exact hl i hi, fun h k hk hz => by rw [e 60 (by decide) (by decide)]; exact hN h k hk hz, fun d d0 hd k hk hr => by rw [e 56 (by decide) (by decide)]; exact hP d d0 hd k hk hr⟩
theorem RCm.fr2 {σ' : SG} (hW : WF σ) (M : RCm σ mi ml) (h0 : σ' 0 0 = σ 0 0) (h4 : σ' 4 = σ 4) (h9 : σ' 0 9 = σ 0 9) (e : ∀ a, 19 ≤ a → a ≤ 34 → m a = mi a) (e' : ∀ a, 19 ≤ a → a ≤ 33 → l a = ml a) : RCm σ' m l := by
  intro hr
  have e1 : muS σ' = muS σ := by funext i; unfold muS; rw [h4]
  have e2 : kS σ' = kS σ := by unfold kS; rw [h9]
  have hK := kS_12 hW
  rw [e1, e2]
  obtain ⟨⟨h1, h2, h3⟩, h4, h5⟩ := M (by rw [← h0]; exact hr)
  refine ⟨⟨by rw [e' 19 (by decide) (by decide)]; exact h1, by rw [e 19 (by decide) (by decide)]; exact h2, fun q hq => ?_⟩, by rw [e 19 (by decide) (by decide)]; exact h4, fun j hj ht => ?_⟩
  · rw [e 34 (by decide) (by decide), e' (22 + q) (by omega) (by omega)]; exact h3 q hq
  · obtain ⟨q, g1, g2, g3, g4⟩ := h5 j hj ht
    exact ⟨q, g1, g2, g3, by rw [e 20 (by decide) (by decide)]; exact g4⟩
theorem FRw.t {m' : MI} (h : ∀ z, z ≠ 65 → m' z = (u2 mj 48 0 (nI 0)) z) (w : Nat) : FRw mj (u2 (u2 m' 48 1 (nI w)) 48 2 (-(nI 1))) w := by
  refine ⟨by rw [u2_ne2 _ _ (Or.inr (by decide)), u2_s], u2_s _ _ _ _, fun k h3 h50 => ?_, fun a a1 a2 => ?_⟩
  · rw [u2_ne2 _ _ (Or.inr (by omega)), u2_ne2 _ _ (Or.inr (by omega)), h 48 (by decide), u2_ne2 _ _ (Or.inr (by omega))]
  · rw [u2_o _ _ a1, u2_o _ _ a1, h a (by omega), u2_o _ _ a1]
theorem RR_tour (hW : WF σ) (hr : σ 0 0 = 1) (hs : RMs σ mj) (hB : RMb σ mj) : ∃ mj' : MI, Ret m_r_tour [vR 19 0 48] (some (vI (nI (tgo (kS σ) (muS σ) 12 (2 ^ kS σ - 1))))) c (MRc nb db by_ rs) mj mk mj' mk ∧ FRw mj mj' 0 := by
  have e2 : ¬ mj 48 26 = 0 := by rw [hs.rd, hr]; decide
  have hK := kS_12 hW
  have hp := p2K hK
  have hp0 := Nat.two_pow_pos (kS σ)
  have T := (RT.of hW hs hB).u0 (nI 0)
  obtain ⟨m1, q1, q2, q3⟩ := R_laysTours (nb := nb) (db := db) (by_ := by_) (rs := rs) (c := c) (mk := mk) hK (muS_31 hW) T
  have T1 : RT (kS σ) (muS σ) m1 := ⟨by rw [q3 48 (by decide)]; exact T.1, fun q hq => by rw [q3 51 (by decide)]; exact T.2 q hq⟩
  have G := R_goes (nb := nb) (db := db) (by_ := by_) (rs := rs) (c := c) (mk := mk) (L := 2 ^ kS σ - 1) (a := 12) (x := -(nI 1)) (y := (nI 1 <<< (m1 48 9 &&& 31)) - nI 1) hK (muS_31 hW) T1 (by omega) (fun m hm hb => q2 _ (by have := xb_lt hb; omega) m hm (by rw [bt_x hb, if_pos rfl])) (Or.inr ⟨rfl, rfl⟩) (by rw [shl_n rfl T1.1 (by omega) (by omega), Nat.one_mul, nI_sub (by omega)])
  exact ⟨_, g_r_tour_0 ⟨fun _ => ⟨_, _, q1, _, G, rfl, rfl, rfl⟩, fun g => absurd g e2⟩, FRw.t q3 0⟩
theorem RR_tourAt (hW : WF σ) (hr : σ 0 0 = 1) (hs : RMs σ mj) (hB : RMb σ mj) {n : Nat} (hn : n < kS σ) : ∃ mj' : MI, Ret m_r_tourAt [vR 19 0 48, vI (nI n)] (some (vI (nI (wkS (kS σ) (muS σ) (n + 1)).1))) c (MRc nb db by_ rs) mj mk mj' mk ∧ FRw mj mj' 0 := by
  have e2 : ¬ mj 48 26 = 0 := by rw [hs.rd, hr]; decide
  have hK := kS_12 hW
  have hp := p2K hK
  have hp0 := Nat.two_pow_pos (kS σ)
  have T := (RT.of hW hs hB).u0 (nI 0)
  have n0 : ¬ nI n < 0 := fun g => absurd ((nI_ltI (by omega) (by decide)).mp (show nI n < nI 0 from g)) (by omega)
  have n9 : nI n < mj 48 9 := by rw [(RT.of hW hs hB).1, nI_ltI (by omega) (by omega)]; exact hn
  obtain ⟨m1, q1, q2, q3⟩ := R_laysTours (nb := nb) (db := db) (by_ := by_) (rs := rs) (c := c) (mk := mk) hK (muS_31 hW) T
  have T1 : RT (kS σ) (muS σ) m1 := ⟨by rw [q3 48 (by decide)]; exact T.1, fun q hq => by rw [q3 51 (by decide)]; exact T.2 q hq⟩
  have G := R_tourAtGo (nb := nb) (db := db) (by_ := by_) (rs := rs) (c := c) (mk := mk) hK (muS_31 hW) T1 q2 hn (l1 := nI n) rfl 0 (by omega) (-(nI 1)) ((nI 1 <<< (m1 48 9 &&& 31)) - nI 1) (nI 0) (Or.inr ⟨rfl, rfl⟩) (by rw [shl_n rfl T1.1 (by omega) (by omega), Nat.one_mul, nI_sub (by omega)]; rfl) rfl
  exact ⟨_, g_r_tourAt_0 ⟨fun g => absurd g e2, fun _ => ⟨fun g => absurd g n0, fun _ => ⟨fun _ => ⟨_, _, q1, G⟩, fun g => absurd n9 g⟩⟩⟩, FRw.t q3 0⟩
/-- behind a tour, on both sides -/
theorem tour_end {f : Nat} {s : Nat → Int32} {rn' rc' c' : Nat} {l' : ML} {m1 m3 : MI} (hb : nb = 43 ∧ db = 5 ∨ nb = 5 ∧ db = 43) (F : FC σ nb mi ml) (R : FR σ mi) (M : RCm σ mi ml) (hrc : rcO rn' rc' c') (hc : 67 ≤ c') (hf : gw rn' ≤ f) (hs : mi 0 = s) (k1 : m1 35 0 = 1) (k2 : TD (kS σ) (muS σ) m1) (k3 : ∀ a, a ≠ 35 → a ≠ 36 → a ≠ 37 → a ≠ rc' → m1 a = (u2 mi 1 9 (nI 0)) a) (kl : ∀ a, a < 67 → l' a = ml a) (w : FRw m1 m3 0) :
    LI f s c' (MRc nb db by_ (some (0, rn', rc'))) m3 l' := by
  have hbb := hbb_of hb
  have S := trS_s σ 0
  have rc1 : rc' = 38 ∨ 66 < rc' := by rcases hrc with z | z <;> omega
  have F1 : FC (trS σ 0) nb (u2 mi 1 9 (nI 0)) ml := F.why hbb (by decide) (by decide) (FCw.one mi 0)
  have w3 : ∀ a, a ≠ 48 → (a < 61 ∨ 65 < a) → m3 a = m1 a := w.2.2.2
  have e1 : ∀ a, a < 48 → a < 35 ∨ 38 < a → m3 a = (u2 mi 1 9 (nI 0)) a := fun a h1 h2 => by rw [w3 a (by omega) (by omega), k3 a (by omega) (by omega) (by omega) (by omega)]
  have R1 : FR σ m1 := R.fr2 (fun a h1 h2 => by rw [k3 a (by omega) (by omega) (by omega) (by omega), u2_o _ _ (by omega)])
  refine ⟨trS σ 0, nb, db, by_, rn', rc', hb, rfl, F1.fr3 hbb e1 (fun a ha => kl a (by omega)), R1.why (by decide) (by decide) w, M.fr2 F.1.1 rfl rfl rfl (fun a h1 h2 => by rw [e1 a (by omega) (by omega), u2_o _ _ (by omega)]) (fun a h1 h2 => kl a (by omega)), ⟨Or.inr (by rw [w3 35 (by decide) (by decide)]; exact k1), fun _ _ => ⟨by rw [w3 35 (by decide) (by decide)]; exact k2.1, fun i hi => by rw [w3 36 (by decide) (by decide)]; exact k2.2 i hi⟩⟩, hrc, hc, hf, ?_⟩
  rw [e1 0 (by decide) (by decide), u2_o _ _ (by decide)]; exact hs
theorem u190 (hW : WF σ) (hr : σ 0 0 = 1) (hb : nb = 43 ∧ db = 5 ∨ nb = 5 ∧ db = 43) (F : FC σ nb mi ml) : (u2 mi 1 9 (nI 0)) nb 4 = nI (kS σ) ∧ ∀ q, q < kS σ → (u2 mi 1 9 (nI 0)) (nb + 4) q = nI (muS σ q) := by
  have hms := hW.ms
  have hBn := (F.1.2.2 hr).w (hbb_of hb) (nI 0)
  exact ⟨by rw [hBn.2.2.2.2.1, kS_z hW], fun q hq => by rw [hBn.mk (by unfold kS at hq; omega), muS_z hW hq]⟩
end
section
variable {f c : Nat} {s : Nat → Int32} {mr : MR} {mi : MI} {ml : ML} {x : Int32}
theorem C_tour (H : LI f s c mr mi ml) : ∃ kc ks f', kc + f' ≤ f ∧ ks + 49152 * f' ≤ 49152 * f ∧ Ok m_w_tour kc ks (vR 10 0 1 :: []) (CallQ m_w_tour m_r_tour [] s (LI f' s)) c mr mi ml := by
  have H0 := H
  obtain ⟨σ, nb, db, by_, rn, rc, hb, rfl, F, R, M, T, hrc, hc, hf, hs⟩ := H
  have hW := F.1.1
  by_cases hr : σ 0 0 = 1
  · have e1 : ¬ mi 1 8 = 0 := by rw [F.1.2.1.1, hr]; decide
    have hK := kS_12 hW
    obtain ⟨h4, hm⟩ := u190 hW hr hb F
    by_cases hg : mi 35 0 = 1 ∨ kS σ * 2 ^ kS σ ≤ rn
    · refine ⟨0, 0, f, by omega, by omega, ?_⟩
      obtain ⟨m1, q1, q2, q3, q4⟩ := K_findA (nb := nb) (db := db) (by_ := by_) (c := c) (mi := u2 mi 1 9 (nI 0)) (ml := ml) hb hrc hK (muS_31 hW) h4 hm T.1 (fun k => ⟨(T.2 k hr).1, (T.2 k hr).2⟩) hg
      have rc1 : rc = 38 ∨ 66 < rc := by rcases hrc with z | z <;> omega
      have R1 : FR σ m1 := R.fr2 (fun a h1 h2 => by rw [q4 a (by omega) (by omega) (by omega) (by omega), u2_o _ _ (by omega)])
      obtain ⟨m3, w1, w2⟩ := RR_tour (nb := nb) (db := db) (by_ := by_) (rs := some (0, rn, rc)) (c := c) (mk := ml) hW hr R1.1.2.1 R1.1.2.2
      have HC : Ret m_w_tour [vR 10 0 1] (some (vI (nI (tgo (kS σ) (muS σ) 12 (2 ^ kS σ - 1))))) c (MRc nb db by_ (some (0, rn, rc))) mi ml m1 ml := g_w_tour_0 hb ⟨fun g => absurd g e1, fun _ => ⟨_, _, q1, by rw [q3.1], rfl, rfl⟩⟩
      exact HC _ ⟨by rw [q4 0 (by decide) (by decide) (by decide) (by omega), u2_o _ _ (by decide)]; exact hs, _, rfl, rfl, w1 _ ⟨rfl, tour_end hb F R M hrc hc hf hs q2 q3 q4 (fun _ _ => rfl) w2⟩⟩
    · have h0 : mi 35 0 = 0 := by rcases T.1 with z | z; exact z; exact absurd (Or.inl z) hg
      have hgr : rn < kS σ * 2 ^ kS σ := by
        rcases Nat.lt_or_ge rn (kS σ * 2 ^ kS σ) with z | z
        · exact z
        · exact absurd (Or.inr z) hg
      have gd := gw_dec hK hgr
      have hrk := rnK hK
      rw [Nat.mul_comm] at hrk
      refine ⟨1, 49152, f - 1, by omega, by omega, ?_⟩
      have KB : Ok m_tr_find 1 49152 [vR 17 0 35, vR 13 0 nb] (fun r c' mr' m' l' => r = none ∧ c' = c + 1 ∧ mr' = MRc nb db by_ (some (0, kS σ * 2 ^ kS σ, c)) ∧ CallQ m_w_tour m_r_tour [] s (LI (f - 1) s) (some (vI (m' 35 1))) c' mr' m' l') c (MRc nb db by_ (some (0, rn, rc))) (u2 mi 1 9 (nI 0)) ml := by
        refine K_findB (nb := nb) (db := db) (by_ := by_) hb hc hrc hK (muS_31 hW) h4 hm h0 hgr (fun m1 q2 q3 q4 => ⟨rfl, rfl, rfl, ?_⟩)
        have hrc2 : rcO (kS σ * 2 ^ kS σ) c (c + 1) := Or.inr ⟨hrk, by omega, by omega⟩
        have R1 : FR σ m1 := R.fr2 (fun a h1 h2 => by rw [q4 a (by omega) (by omega) (by omega) (by omega), u2_o _ _ (by omega)])
        obtain ⟨m3, w1, w2⟩ := RR_tour (nb := nb) (db := db) (by_ := by_) (rs := some (0, kS σ * 2 ^ kS σ, c)) (c := c + 1) (mk := z2 ml c 0) hW hr R1.1.2.1 R1.1.2.2
        refine ⟨by rw [q4 0 (by decide) (by decide) (by decide) (by omega), u2_o _ _ (by decide)]; exact hs, _, rfl, by rw [q3.1], w1 _ ⟨rfl, tour_end hb F R M hrc2 (by omega) (by omega) hs q2 q3 q4 (fun a ha => z2_o _ _ (by omega)) w2⟩⟩
      rcases hb with ⟨rfl, rfl⟩ | ⟨rfl, rfl⟩
      all_goals
        refine ok_wq inlT 400 rfl rfl ?_
        refine ⟨fun g => absurd g e1, fun g => ?_⟩
        refine ⟨fun g => absurd (show ¬ (nI 0) = 0 from g) (by decide), fun _ => ?_⟩
        refine ⟨Or.inr rfl, ?_⟩
        refine ⟨Or.inr rfl, ?_⟩
        refine ⟨fun _ => ?_, fun g => absurd (show (nI 1) = 0 from g) (by decide)⟩
        refine ⟨1, 49152, Nat.le_refl _, Nat.le_refl _, KB.mono (fun r c' mr' m' l' h => ?_)⟩
        obtain ⟨h1, h2, h3, h4⟩ := h
        subst h1 h2 h3
        exact h4
  · refine ⟨0, 0, f, by omega, by omega, Call.adv H0 (fun σ' nb' db' by' rs' hb' F' M' mj mk R' => ?_)⟩
    have e0 : mi 1 8 = 0 := by
      rcases rd_01 hW with z | z
      · rw [F.1.2.1.1, z]; rfl
      · exact absurd z hr
    have z0' : σ' 0 0 = 0 := by
      rcases rd_01 F'.1.1 with z | z
      · exact z
      · have := F'.1.2.1.1; rw [z, e0] at this; exact absurd this (by decide)
    exact Adv.ofA hb' F' R' (Agr.mk (vI (-(nI 1))) 1 (by decide) (fun c => g_w_tour_0 hb' ⟨fun _ => ⟨rfl, rfl, rfl⟩, fun g => absurd e0 g⟩) (fun c => g_r_tour_0 ⟨fun g => absurd (by rw [R'.1.2.1.rd, z0']; rfl) g, fun _ => ⟨rfl, rfl, rfl⟩⟩))
end
