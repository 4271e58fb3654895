/-! ===== a step of a tour ===== -/
theorem in3_g {x m a : Int32} {A B : Prop} (h : x = 0 ∨ a < 0 ∨ m ≤ a) (hA : A) : (x = 0 → A) ∧ (¬ x = 0 → ((a < 0 → A) ∧ (¬ a < 0 → ((a < m → B) ∧ (¬ a < m → A))))) :=
  ⟨fun _ => hA, fun z => ⟨fun _ => hA, fun z2 => ⟨fun z3 => by
    rcases h with h | h | h
    · exact absurd h z
    · exact absurd h z2
    · rw [Int32.le_iff_toInt_le] at h
      rw [Int32.lt_iff_toInt_lt] at z3
      omega, fun _ => hA⟩⟩⟩
section
variable {f c : Nat} {s : Nat → Int32} {mr : MR} {mi : MI} {ml : ML} {x : Int32}
theorem Call.adv1 {yw yr : Nat} {as : List AV} {σ : SG} {nb db rn rc : Nat} {by_ : RX} (hb : nb = 43 ∧ db = 5 ∨ nb = 5 ∧ db = 43) (F : FC σ nb mi ml) (R : FR σ mi) (M : RCm σ mi ml) (T : RCt σ mi) (hrc : rcO rn rc c) (hc : 67 ≤ c) (hf : gw rn ≤ f) (hs : mi 0 = s) (V : ∀ (mj : MI) (mk : ML), FR σ mj → Adv yw yr as nb db by_ (some (0, rn, rc)) σ mi ml mj mk) : Ok yw 0 0 (vR 10 0 1 :: as) (CallQ yw yr as s (LI f s)) c (MRc nb db by_ (some (0, rn, rc))) mi ml := by
  refine (Pair.of hb R (fun mj mk Rj => V mj mk Rj) c).mono (fun r c' mr' m' l' h => ?_)
  obtain ⟨e1, e2, e0, v, σ', mj, mk, iv, er, hR, F', R', ⟨g4, g9, -, g0, -⟩, fr, frl⟩ := h
  refine ⟨e0.trans hs, v, iv, er, ?_⟩
  rw [e1, e2]
  have hrc1 : ∀ a, a = 0 ∨ (19 ≤ a ∧ a ≤ 38) ∨ 65 < a → mj a = mi a := fr
  refine hR _ ⟨rfl, σ', nb, db, by_, rn, rc, hb, rfl, F', R', M.fr F.1.1 g0 g4 g9 (fun a a1 a2 => fr a (by omega)) (fun a a1 a2 => frl a (by omega)), T.fr g0 g4 g9 (fr 35 (by omega)) (fr 36 (by omega)), hrc, hc, hf, by rw [fr 0 (by omega)]; exact hs⟩
theorem C_tourAt (H : LI f s c mr mi ml) : ∃ kc ks f', kc + f' ≤ f ∧ ks + 49152 * f' ≤ 49152 * f ∧ Ok m_w_tourAt kc ks (vR 10 0 1 :: [vI x]) (CallQ m_w_tourAt m_r_tourAt [vI x] s (LI f' s)) c mr mi ml := by
  obtain ⟨σ, nb, db, by_, rn, rc, hb, rfl, F, R, M, T, hrc, hc, hf, hs⟩ := H
  have hW := F.1.1
  have h12 := hW.ms
  have c4 : σ 0 0 = 1 → mi nb 4 = zI (σ 0 9) := fun z => (F.1.2.2 z).2.2.2.2.1
  by_cases hx : InK σ 9 x
  · have hr := hx.1
    have fx := hx.fac (by omega) F.1.2.1.1 c4
    obtain ⟨n, e, hn9⟩ := hx.nat
    have hK := kS_12 hW
    have hn : n < kS σ := by unfold kS; omega
    have vx : vp_in x 12 := by rw [e]; exact vp_in_nI (by omega) (by decide)
    have cx : x.toNatClampNeg = n := by rw [e]; exact nI_clamp (by omega)
    obtain ⟨h4, hm⟩ := u190 hW hr hb F
    by_cases hg : mi 35 0 = 1 ∨ kS σ * 2 ^ kS σ ≤ rn
    · refine ⟨0, 0, f, by omega, by omega, ?_⟩
      obtain ⟨m1, q1, q2, q3, q4⟩ := K_findA (nb := nb) (db := db) (by_ := by_) (c := c) (mi := u2 mi 1 9 (nI 0)) (ml := ml) hb hrc hK (muS_31 hW) h4 hm T.1 (fun k => ⟨(T.2 k hr).1, (T.2 k hr).2⟩) hg
      have R1 : FR σ m1 := R.fr2 (fun a h1 h2 => by rw [q4 a (by omega) (by omega) (by omega) (by rcases hrc with z | z <;> omega), u2_o _ _ (by omega)])
      obtain ⟨m3, w1, w2⟩ := RR_tourAt (nb := nb) (db := db) (by_ := by_) (rs := some (0, rn, rc)) (c := c) (mk := ml) hW hr R1.1.2.1 R1.1.2.2 hn
      rw [← e] at w1
      have HC : Ret m_w_tourAt [vR 10 0 1, vI x] (some (vI (nI (wkS (kS σ) (muS σ) (n + 1)).1))) c (MRc nb db by_ (some (0, rn, rc))) mi ml m1 ml := g_w_tourAt_0 hb (in3_t fx ⟨_, _, q1, vx, by rw [cx, q3.2 n hn], rfl, rfl⟩)
      exact HC _ ⟨by rw [q4 0 (by decide) (by decide) (by decide) (by rcases hrc with z | z <;> omega), u2_o _ _ (by decide)]; exact hs, _, rfl, rfl, w1 _ ⟨rfl, tour_end hb F R M hrc hc hf hs q2 q3 q4 (fun _ _ => rfl) w2⟩⟩
    · have h0 : mi 35 0 = 0 := by rcases T.1 with z | z; exact z; exact absurd (Or.inl z) hg
      have hgr : rn < kS σ * 2 ^ kS σ := by
        rcases Nat.lt_or_ge rn (kS σ * 2 ^ kS σ) with z | z
        · exact z
        · exact absurd (Or.inr z) hg
      have gd := gw_dec hK hgr
      have hrk := rnK hK
      rw [Nat.mul_comm] at hrk
      refine ⟨1, 49152, f - 1, by omega, by omega, ?_⟩
      have KB : Ok m_tr_find 1 49152 [vR 17 0 35, vR 13 0 nb] (fun r c' mr' m' l' => r = none ∧ c' = c + 1 ∧ mr' = MRc nb db by_ (some (0, kS σ * 2 ^ kS σ, c)) ∧ CallQ m_w_tourAt m_r_tourAt [vI x] s (LI (f - 1) s) (some (vI (m' 36 x.toNatClampNeg))) c' mr' m' l') c (MRc nb db by_ (some (0, rn, rc))) (u2 mi 1 9 (nI 0)) ml := by
        refine K_findB (nb := nb) (db := db) (by_ := by_) hb hc hrc hK (muS_31 hW) h4 hm h0 hgr (fun m1 q2 q3 q4 => ⟨rfl, rfl, rfl, ?_⟩)
        have hrc2 : rcO (kS σ * 2 ^ kS σ) c (c + 1) := Or.inr ⟨hrk, by omega, by omega⟩
        have R1 : FR σ m1 := R.fr2 (fun a h1 h2 => by rw [q4 a (by omega) (by omega) (by omega) (by omega), u2_o _ _ (by omega)])
        obtain ⟨m3, w1, w2⟩ := RR_tourAt (nb := nb) (db := db) (by_ := by_) (rs := some (0, kS σ * 2 ^ kS σ, c)) (c := c + 1) (mk := z2 ml c 0) hW hr R1.1.2.1 R1.1.2.2 hn
        rw [← e] at w1
        refine ⟨by rw [q4 0 (by decide) (by decide) (by decide) (by omega), u2_o _ _ (by decide)]; exact hs, _, rfl, by rw [cx, q3.2 n hn], w1 _ ⟨rfl, tour_end hb F R M hrc2 (by omega) (by omega) hs q2 q3 q4 (fun a ha => z2_o _ _ (by omega)) w2⟩⟩
      rcases hb with ⟨rfl, rfl⟩ | ⟨rfl, rfl⟩
      all_goals
        refine ok_wq inlT 400 rfl rfl ?_
        refine ⟨fun g => absurd g fx.1, fun _ => ?_⟩
        refine ⟨fun g => absurd g fx.2.1, fun _ => ?_⟩
        refine ⟨fun g => absurd g fx.2.2, fun _ => ?_⟩
        refine ⟨Or.inr rfl, ?_⟩
        refine ⟨fun g => absurd (show (nI 1) = 0 from g) (by decide), fun _ => ?_⟩
        refine ⟨fun g => absurd (show ¬ (nI 0) = 0 from g) (by decide), fun _ => ?_⟩
        refine ⟨Or.inr rfl, ?_⟩
        refine ⟨fun _ => ?_, fun g => absurd (show (nI 1) = 0 from g) (by decide)⟩
        refine ⟨1, 49152, Nat.le_refl _, Nat.le_refl _, KB.mono (fun r c' mr' m' l' h => ?_)⟩
        obtain ⟨h1, h2, h3, h4⟩ := h
        subst h1 h2 h3
        refine ⟨vx, ?_⟩
        exact h4
  · refine ⟨0, 0, f, by omega, by omega, Call.adv1 hb F R M T hrc hc hf hs (fun mj mk R' => ?_)⟩
    exact Adv.ofA hb F R' (Agr.mk (vI (-(nI 1))) 1 (by decide) (fun c => g_w_tourAt_0 hb (in3_f (nInK.fac (rd_01 hW) h12.1 (by omega) F.1.2.1.1 c4 hx) ⟨rfl, rfl, rfl⟩)) (fun c => g_r_tourAt_0 (in3_g (nInK.fac (rd_01 hW) h12.1 (by omega) R'.1.2.1.rd (fun _ => R'.1.2.1.2.2.2.1) hx) ⟨rfl, rfl, rfl⟩)))
end
