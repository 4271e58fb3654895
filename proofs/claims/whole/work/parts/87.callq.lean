/-! ===== what holds between the calls of a run; a call of both sides ===== -/
def cnN (f : Nat → Nat) : Nat → Nat
  | 0 => 0
  | n + 1 => cnN f n + f n
theorem cnN_le {f g : Nat → Nat} : ∀ n, (∀ k, k < n → f k ≤ g k) → cnN f n ≤ cnN g n
  | 0, _ => Nat.le_refl 0
  | n + 1, h => by
    have h1 := cnN_le n (fun k hk => h k (by omega))
    have h2 := h n (by omega)
    show cnN f n + f n ≤ cnN g n + g n
    omega
theorem cnN_lt {f g : Nat → Nat} {K : Nat} : ∀ n, (∀ k, k < n → f k ≤ g k) → K < n → f K < g K → cnN f n < cnN g n
  | 0, _, h, _ => absurd h (Nat.not_lt_zero K)
  | n + 1, h, hK, hl => by
    have h1 := cnN_le n (fun k hk => h k (by omega))
    have h2 := h n (by omega)
    show cnN f n + f n < cnN g n + g n
    by_cases e : K = n
    · rw [e] at hl; omega
    · have := cnN_lt n (fun k hk => h k (by omega)) (show K < n by omega) hl
      omega
/-- how often the row of a tour may still grow -/
def gw (rn : Nat) : Nat := cnN (fun k => if rn < k * 2 ^ k then 1 else 0) 13
theorem gw_dec {rn K : Nat} (hK : K ≤ 12) (h : rn < K * 2 ^ K) : gw (K * 2 ^ K) + 1 ≤ gw rn := by
  refine cnN_lt (K := K) 13 (fun k _ => ?_) (by omega) ?_
  · show (if K * 2 ^ K < k * 2 ^ k then 1 else 0) ≤ (if rn < k * 2 ^ k then 1 else 0)
    by_cases g : K * 2 ^ K < k * 2 ^ k
    · rw [if_pos g, if_pos (by omega)]; exact Nat.le_refl 1
    · rw [if_neg g]; exact Nat.zero_le _
  · show (if K * 2 ^ K < K * 2 ^ K then 1 else 0) < (if rn < K * 2 ^ K then 1 else 0)
    rw [if_neg (Nat.lt_irrefl _), if_pos h]; decide
def RCt (σ : SG) (mi : MI) : Prop := (mi 35 0 = 0 ∨ mi 35 0 = 1) ∧ (mi 35 0 = 1 → σ 0 0 = 1 → TD (kS σ) (muS σ) mi)
/-- what holds between calls; s: the script's ints -/
def LI (f : Nat) (s : Nat → Int32) : HP := fun c mr mi ml => ∃ (σ : SG) (nb db : Nat) (by_ : RX) (rn rc : Nat), (nb = 43 ∧ db = 5 ∨ nb = 5 ∧ db = 43) ∧ mr = MRc nb db by_ (some (0, rn, rc)) ∧ FC σ nb mi ml ∧ FR σ mi ∧ RCm σ mi ml ∧ RCt σ mi ∧ rcO rn rc c ∧ 67 ≤ c ∧ gw rn ≤ f ∧ mi 0 = s
/-- the class has answered; the reference, called next, answers the same, and then J holds -/
def CallQ (yw yr : Nat) (as : List AV) (s : Nat → Int32) (J : HP) : Option AV → HP := fun r c mr mi ml => mi 0 = s ∧ ∃ v : AV, isV yw v = true ∧ r = some v ∧ Ok yr 0 0 (vR 19 0 48 :: as) (fun r2 c2 mr2 mi2 ml2 => r2 = some v ∧ J c2 mr2 mi2 ml2) c mr mi ml
theorem CTb.fr {μ : Nat → Nat} {K : Nat} {mi mi' : MI} {ml ml' : ML} (hK : K ≤ 12) (h : CTb μ K mi ml) (e : ∀ a, 19 ≤ a → a ≤ 38 → mi' a = mi a) (e' : ∀ a, 19 ≤ a → a ≤ 33 → ml' a = ml a) : CTb μ K mi' ml' := by
  obtain ⟨⟨h1, h2, h3⟩, h4, h5⟩ := h
  refine ⟨⟨by rw [e' 19 (by decide) (by decide)]; exact h1, by rw [e 19 (by decide) (by decide)]; exact h2, fun q hq => ?_⟩, by rw [e 19 (by decide) (by decide)]; exact h4, fun j hj ht => ?_⟩
  · rw [e 34 (by decide) (by decide), e' (22 + q) (by omega) (by omega)]; exact h3 q hq
  · obtain ⟨q, g1, g2, g3, g4⟩ := h5 j hj ht
    exact ⟨q, g1, g2, g3, by rw [e 20 (by decide) (by decide)]; exact g4⟩
theorem RCm.fr {σ σ' : SG} {mi mi' : MI} {ml ml' : ML} (hW : WF σ) (M : RCm σ mi ml) (h0 : σ' 0 0 = σ 0 0) (h4 : σ' 4 = σ 4) (h9 : σ' 0 9 = σ 0 9) (e : ∀ a, 19 ≤ a → a ≤ 38 → mi' a = mi a) (e' : ∀ a, 19 ≤ a → a ≤ 33 → ml' a = ml a) : RCm σ' mi' ml' := by
  intro hr
  have e1 : muS σ' = muS σ := by funext i; unfold muS; rw [h4]
  have e2 : kS σ' = kS σ := by unfold kS; rw [h9]
  rw [e1, e2]
  exact (M (by rw [← h0]; exact hr)).fr (kS_12 hW) e e'
theorem RCt.fr {σ σ' : SG} {mi mi' : MI} (h : RCt σ mi) (h0 : σ' 0 0 = σ 0 0) (h4 : σ' 4 = σ 4) (h9 : σ' 0 9 = σ 0 9) (e35 : mi' 35 = mi 35) (e36 : mi' 36 = mi 36) : RCt σ' mi' := by
  have e1 : muS σ' = muS σ := by funext i; unfold muS; rw [h4]
  have e2 : kS σ' = kS σ := by unfold kS; rw [h9]
  refine ⟨by rw [e35]; exact h.1, fun k hr => ?_⟩
  rw [e35] at k
  obtain ⟨t1, t2⟩ := h.2 k (by rw [← h0]; exact hr)
  rw [e1, e2]
  exact ⟨by rw [e35]; exact t1, fun i hi => by rw [e36]; exact t2 i hi⟩
theorem Adv.of0 {yw yr : Nat} {as : List AV} {nb db : Nat} {by_ rs : RX} {σ : SG} {mi mj : MI} {ml mk : ML} (F : FC σ nb mi ml) (R : FR σ mj) (A : Agr0 yw yr as nb db by_ rs mi ml mj mk) : Adv yw yr as nb db by_ rs σ mi ml mj mk := by
  intro c
  obtain ⟨v, h1, h2, h3⟩ := A
  exact ⟨v, σ, mi, ml, _, mk, h1 c, h2 c, F, (show FR σ (u2 mj 48 0 (nI 0)) from R), ⟨rfl, rfl, rfl, rfl, rfl⟩, fun _ _ _ => rfl, fun _ _ => rfl, fun _ _ => rfl, fun a ha => u2_o _ _ (by omega), fun _ _ => rfl, h3⟩
section
variable {f c : Nat} {s : Nat → Int32} {mr : MR} {mi : MI} {ml : ML}
theorem Call.adv {yw yr : Nat} {as : List AV} (H : LI f s c mr mi ml) (V : ∀ (σ : SG) (nb db : Nat) (by_ rs : RX), (nb = 43 ∧ db = 5 ∨ nb = 5 ∧ db = 43) → FC σ nb mi ml → RCm σ mi ml → ∀ (mj : MI) (mk : ML), FR σ mj → Adv yw yr as nb db by_ rs σ mi ml mj mk) : Ok yw 0 0 (vR 10 0 1 :: as) (CallQ yw yr as s (LI f s)) c mr mi ml := by
  obtain ⟨σ, nb, db, by_, rn, rc, hb, rfl, F, R, M, T, hrc, hc, hf, hs⟩ := H
  refine (Pair.of hb R (fun mj mk Rj => V σ nb db by_ (some (0, rn, rc)) hb F M mj mk Rj) c).mono (fun r c' mr' m' l' h => ?_)
  obtain ⟨e1, e2, e0, v, σ', mj, mk, iv, er, hR, F', R', ⟨g4, g9, -, g0, -⟩, fr, frl⟩ := h
  refine ⟨e0.trans hs, v, iv, er, ?_⟩
  rw [e1, e2]
  have hrc1 : ∀ a, a = 0 ∨ (19 ≤ a ∧ a ≤ 38) ∨ 65 < a → mj a = mi a := fr
  refine hR _ ⟨rfl, σ', nb, db, by_, rn, rc, hb, rfl, F', R', M.fr F.1.1 g0 g4 g9 (fun a a1 a2 => fr a (by omega)) (fun a a1 a2 => frl a (by omega)), T.fr g0 g4 g9 (fr 35 (by omega)) (fr 36 (by omega)), hrc, hc, hf, by rw [fr 0 (by omega)]; exact hs⟩
theorem C_plate {x : Int32} (H : LI f s c mr mi ml) : Ok m_w_plate 0 0 (vR 10 0 1 :: [vI x]) (CallQ m_w_plate m_r_plate [vI x] s (LI f s)) c mr mi ml :=
  Call.adv H (fun σ nb db by_ rs hb F M mj mk R => Adv.ofA hb F R (A_plate hb F.1 R.1))
theorem C_light {x : Int32} (H : LI f s c mr mi ml) : Ok m_w_light 0 0 (vR 10 0 1 :: [vI x]) (CallQ m_w_light m_r_light [vI x] s (LI f s)) c mr mi ml :=
  Call.adv H (fun σ nb db by_ rs hb F M mj mk R => Adv.ofA hb F R (A_light hb F.1 R.1))
theorem C_noise {x : Int32} (H : LI f s c mr mi ml) : Ok m_w_noise 0 0 (vR 10 0 1 :: [vI x]) (CallQ m_w_noise m_r_noise [vI x] s (LI f s)) c mr mi ml :=
  Call.adv H (fun σ nb db by_ rs hb F M mj mk R => Adv.ofA hb F R (A_noise hb F.1 R.1))
theorem C_shutter {x : Int32} (H : LI f s c mr mi ml) : Ok m_w_shutter 0 0 (vR 10 0 1 :: [vI x]) (CallQ m_w_shutter m_r_shutter [vI x] s (LI f s)) c mr mi ml :=
  Call.adv H (fun σ nb db by_ rs hb F M mj mk R => Adv.ofA hb F R (A_shutter hb F.1 R.1))
theorem C_lost {x : Int32} (H : LI f s c mr mi ml) : Ok m_w_lost 0 0 (vR 10 0 1 :: [vI x]) (CallQ m_w_lost m_r_lost [vI x] s (LI f s)) c mr mi ml :=
  Call.adv H (fun σ nb db by_ rs hb F M mj mk R => Adv.ofA hb F R (A_lost hb F.1 R.1))
theorem C_mask {x : Int32} (H : LI f s c mr mi ml) : Ok m_w_mask 0 0 (vR 10 0 1 :: [vI x]) (CallQ m_w_mask m_r_mask [vI x] s (LI f s)) c mr mi ml :=
  Call.adv H (fun σ nb db by_ rs hb F M mj mk R => Adv.ofA hb F R (A_mask hb F.1 R.1))
theorem C_which {x : Int32} (H : LI f s c mr mi ml) : Ok m_w_which 0 0 (vR 10 0 1 :: [vI x]) (CallQ m_w_which m_r_which [vI x] s (LI f s)) c mr mi ml :=
  Call.adv H (fun σ nb db by_ rs hb F M mj mk R => Adv.ofA hb F R (A_which hb F.1 R.1))
theorem C_odd {x : Int32} (H : LI f s c mr mi ml) : Ok m_w_odd 0 0 (vR 10 0 1 :: [vI x]) (CallQ m_w_odd m_r_odd [vI x] s (LI f s)) c mr mi ml :=
  Call.adv H (fun σ nb db by_ rs hb F M mj mk R => Adv.ofA hb F R (A_odd hb F.1 R.1))
theorem C_apart {x : Int32} (H : LI f s c mr mi ml) : Ok m_w_apart 0 0 (vR 10 0 1 :: [vI x]) (CallQ m_w_apart m_r_apart [vI x] s (LI f s)) c mr mi ml :=
  Call.adv H (fun σ nb db by_ rs hb F M mj mk R => Adv.ofA hb F R (A_apart hb F.1 R.1))
theorem C_about {x : Int32} (H : LI f s c mr mi ml) : Ok m_w_about 0 0 (vR 10 0 1 :: [vI x]) (CallQ m_w_about m_r_about [vI x] s (LI f s)) c mr mi ml :=
  Call.adv H (fun σ nb db by_ rs hb F M mj mk R => Adv.ofA hb F R (A_about hb F.1 R.1))
theorem C_alone {x : Int32} (H : LI f s c mr mi ml) : Ok m_w_alone 0 0 (vR 10 0 1 :: [vI x]) (CallQ m_w_alone m_r_alone [vI x] s (LI f s)) c mr mi ml :=
  Call.adv H (fun σ nb db by_ rs hb F M mj mk R => Adv.ofA hb F R (A_alone hb F.1 R.1))
theorem C_common {x y : Int32} (H : LI f s c mr mi ml) : Ok m_w_common 0 0 (vR 10 0 1 :: [vI x, vI y]) (CallQ m_w_common m_r_common [vI x, vI y] s (LI f s)) c mr mi ml :=
  Call.adv H (fun σ nb db by_ rs hb F M mj mk R => Adv.ofA hb F R (A_common hb F.1 R.1))
theorem C_sign {x y z : Int32} (H : LI f s c mr mi ml) : Ok m_w_sign 0 0 (vR 10 0 1 :: [vI x, vI y, vI z]) (CallQ m_w_sign m_r_sign [vI x, vI y, vI z] s (LI f s)) c mr mi ml :=
  Call.adv H (fun σ nb db by_ rs hb F M mj mk R => Adv.ofA hb F R (A_sign F.1 R.1))
theorem C_logged {x y : Int32} (H : LI f s c mr mi ml) : Ok m_w_logged 0 0 (vR 10 0 1 :: [vI x, vI y]) (CallQ m_w_logged m_r_logged [vI x, vI y] s (LI f s)) c mr mi ml :=
  Call.adv H (fun σ nb db by_ rs hb F M mj mk R => Adv.ofA hb F R (A_logged F.1 F.2.2.1 R.1 R.2.1))
theorem C_blinds (H : LI f s c mr mi ml) : Ok m_w_blinds 0 0 (vR 10 0 1 :: []) (CallQ m_w_blinds m_r_blinds [] s (LI f s)) c mr mi ml :=
  Call.adv H (fun σ nb db by_ rs hb F M mj mk R => Adv.ofA hb F R (A_blinds hb F.1 R.1))
theorem C_alones (H : LI f s c mr mi ml) : Ok m_w_alones 0 0 (vR 10 0 1 :: []) (CallQ m_w_alones m_r_alones [] s (LI f s)) c mr mi ml :=
  Call.adv H (fun σ nb db by_ rs hb F M mj mk R => Adv.ofA hb F R (A_alones hb F.1 R.1))
theorem C_share {x : Int32} (H : LI f s c mr mi ml) : Ok m_w_share 0 0 (vR 10 0 1 :: [vI x]) (CallQ m_w_share m_r_share [vI x] s (LI f s)) c mr mi ml :=
  Call.adv H (fun σ nb db by_ rs hb F M mj mk R => Adv.ofA hb F R (A_share hb F.1 R.1))
theorem C_reading {x : Int32} (H : LI f s c mr mi ml) : Ok m_w_reading 0 0 (vR 10 0 1 :: [vI x]) (CallQ m_w_reading m_r_reading [vI x] s (LI f s)) c mr mi ml :=
  Call.adv H (fun σ nb db by_ rs hb F M mj mk R => Adv.ofA hb F R (A_reading hb F.1 F.2.2.2.1 R.1 R.2.2.1))
theorem C_net {x : Int32} (H : LI f s c mr mi ml) : Ok m_w_net 0 0 (vR 10 0 1 :: [vI x]) (CallQ m_w_net m_r_net [vI x] s (LI f s)) c mr mi ml :=
  Call.adv H (fun σ nb db by_ rs hb F M mj mk R => Adv.ofA hb F R (A_net hb F.1 F.2.2.2.1 R.1 R.2.2.1))
theorem C_grains {x : Int32} (H : LI f s c mr mi ml) : Ok m_w_grains 0 0 (vR 10 0 1 :: [vI x]) (CallQ m_w_grains m_r_grains [vI x] s (LI f s)) c mr mi ml :=
  Call.adv H (fun σ nb db by_ rs hb F M mj mk R => Adv.ofA hb F R (A_grains hb F.1 F.2.2.2.1 R.1 R.2.2.1))
theorem C_more {x : Int32} (H : LI f s c mr mi ml) : Ok m_w_more 0 0 (vR 10 0 1 :: [vI x]) (CallQ m_w_more m_r_more [vI x] s (LI f s)) c mr mi ml :=
  Call.adv H (fun σ nb db by_ rs hb F M mj mk R => Adv.ofA hb F R (A_more hb F.1 F.2.2.2.1 R.1 R.2.2.1))
theorem C_errors {x : Int32} (H : LI f s c mr mi ml) : Ok m_w_errors 0 0 (vR 10 0 1 :: [vI x]) (CallQ m_w_errors m_r_errors [vI x] s (LI f s)) c mr mi ml :=
  Call.adv H (fun σ nb db by_ rs hb F M mj mk R => Adv.ofA hb F R (A_errors hb F.1 F.2.2.2.1 R.1 R.2.2.1))
theorem C_back {x y : Int32} (H : LI f s c mr mi ml) : Ok m_w_back 0 0 (vR 10 0 1 :: [vI x, vI y]) (CallQ m_w_back m_r_back [vI x, vI y] s (LI f s)) c mr mi ml :=
  Call.adv H (fun σ nb db by_ rs hb F M mj mk R => Adv.ofA hb F R (A_back hb F.1 F.2.2.2.1 R.1 R.2.2.1))
theorem C_error {x y : Int32} (H : LI f s c mr mi ml) : Ok m_w_error 0 0 (vR 10 0 1 :: [vI x, vI y]) (CallQ m_w_error m_r_error [vI x, vI y] s (LI f s)) c mr mi ml :=
  Call.adv H (fun σ nb db by_ rs hb F M mj mk R => Adv.ofA hb F R (A_error hb F.1 F.2.2.2.1 R.1 R.2.2.1))
theorem C_odds (H : LI f s c mr mi ml) : Ok m_w_odds 0 0 (vR 10 0 1 :: []) (CallQ m_w_odds m_r_odds [] s (LI f s)) c mr mi ml :=
  Call.adv H (fun σ nb db by_ rs hb F M mj mk R => Adv.ofA hb F R (A_odds hb F.1 F.2.2.2.1 R.1 R.2.2.1))
theorem C_better (H : LI f s c mr mi ml) : Ok m_w_better 0 0 (vR 10 0 1 :: []) (CallQ m_w_better m_r_better [] s (LI f s)) c mr mi ml :=
  Call.adv H (fun σ nb db by_ rs hb F M mj mk R => Adv.ofA hb F R (A_better hb F.1 F.2.2.2.1 R.1 R.2.2.1))
theorem C_worst (H : LI f s c mr mi ml) : Ok m_w_worst 0 0 (vR 10 0 1 :: []) (CallQ m_w_worst m_r_worst [] s (LI f s)) c mr mi ml :=
  Call.adv H (fun σ nb db by_ rs hb F M mj mk R => Adv.ofA hb F R (A_worst hb F.1 F.2.2.2.1 R.1 R.2.2.1))
theorem C_closer (H : LI f s c mr mi ml) : Ok m_w_closer 0 0 (vR 10 0 1 :: []) (CallQ m_w_closer m_r_closer [] s (LI f s)) c mr mi ml :=
  Call.adv H (fun σ nb db by_ rs hb F M mj mk R => Adv.ofA hb F R (A_closer hb F.1 F.2.2.2.1 R.1 R.2.2.1))
theorem C_suspects (H : LI f s c mr mi ml) : Ok m_w_suspects 0 0 (vR 10 0 1 :: []) (CallQ m_w_suspects m_r_suspects [] s (LI f s)) c mr mi ml :=
  Call.adv H (fun σ nb db by_ rs hb F M mj mk R => Adv.ofA hb F R (A_suspects hb F.1 F.2.2.2.1 F.2.2.1 F.2.1 R.1 R.2.2.1 R.2.1))
theorem C_suspect {x : Int32} (H : LI f s c mr mi ml) : Ok m_w_suspect 0 0 (vR 10 0 1 :: [vI x]) (CallQ m_w_suspect m_r_suspect [vI x] s (LI f s)) c mr mi ml :=
  Call.adv H (fun σ nb db by_ rs hb F M mj mk R => Adv.ofA hb F R (A_suspect hb F.1 F.2.2.2.1 F.2.2.1 F.2.1 R.1 R.2.2.1 R.2.1))
theorem C_supposed {x y : Int32} (H : LI f s c mr mi ml) : Ok m_w_supposed 0 0 (vR 10 0 1 :: [vI x, vI y]) (CallQ m_w_supposed m_r_supposed [vI x, vI y] s (LI f s)) c mr mi ml :=
  Call.adv H (fun σ nb db by_ rs hb F M mj mk R => Adv.ofA hb F R (A_supposed hb F.1 F.2.2.2.1 F.2.2.1 F.2.1 R.1 R.2.2.1 R.2.1))
theorem C_rank (H : LI f s c mr mi ml) : Ok m_w_rank 0 0 (vR 10 0 1 :: []) (CallQ m_w_rank m_r_rank [] s (LI f s)) c mr mi ml :=
  Call.adv H (fun σ nb db by_ rs hb F M mj mk R => Adv.ofA hb F R (A_rank F.1 M R.1))
theorem C_told (H : LI f s c mr mi ml) : Ok m_w_told 0 0 (vR 10 0 1 :: []) (CallQ m_w_told m_r_told [] s (LI f s)) c mr mi ml :=
  Call.adv H (fun σ nb db by_ rs hb F M mj mk R => Adv.ofA hb F R (A_told F.1 M R.1))
theorem C_agree (H : LI f s c mr mi ml) : Ok m_w_agree 0 0 (vR 10 0 1 :: []) (CallQ m_w_agree m_r_agree [] s (LI f s)) c mr mi ml :=
  Call.adv H (fun σ nb db by_ rs hb F M mj mk R => Adv.ofA hb F R (A_agree hb F.1 M R.1))
theorem C_fewer (H : LI f s c mr mi ml) : Ok m_w_fewer 0 0 (vR 10 0 1 :: []) (CallQ m_w_fewer m_r_fewer [] s (LI f s)) c mr mi ml :=
  Call.adv H (fun σ nb db by_ rs hb F M mj mk R => Adv.ofA hb F R (A_fewer hb F.1 M R.1))
theorem C_solved {x y : Int32} (H : LI f s c mr mi ml) : Ok m_w_solved 0 0 (vR 10 0 1 :: [vI x, vI y]) (CallQ m_w_solved m_r_solved [vI x, vI y] s (LI f s)) c mr mi ml :=
  Call.adv H (fun σ nb db by_ rs hb F M mj mk R => Adv.ofA hb F R (A_solved hb F.1 M R.1))
theorem C_factor {x y z : Int32} (H : LI f s c mr mi ml) : Ok m_w_factor 0 0 (vR 10 0 1 :: [vI x, vI z, vI y]) (CallQ m_w_factor m_r_factor [vI x, vI z, vI y] s (LI f s)) c mr mi ml :=
  Call.adv H (fun σ nb db by_ rs hb F M mj mk R => Adv.ofA hb F R (A_factor hb F.1 M R.1))
theorem C_shareBy {x y : Int32} (H : LI f s c mr mi ml) : Ok m_w_shareBy 0 0 (vR 10 0 1 :: [vI x, vI y]) (CallQ m_w_shareBy m_r_shareBy [vI x, vI y] s (LI f s)) c mr mi ml :=
  Call.adv H (fun σ nb db by_ rs hb F M mj mk R => Adv.ofA hb F R (A_shareBy hb F.1 M R.1))
theorem C_fault (H : LI f s c mr mi ml) : Ok m_w_fault 0 0 (vR 10 0 1 :: []) (CallQ m_w_fault m_r_fault [] s (LI f s)) c mr mi ml :=
  Call.adv H (fun σ nb db by_ rs hb F M mj mk R => Adv.of0 F R (A_fault F.1 R.1))
theorem C_trouble (H : LI f s c mr mi ml) : Ok m_w_trouble 0 0 (vR 10 0 1 :: []) (CallQ m_w_trouble m_r_trouble [] s (LI f s)) c mr mi ml :=
  Call.adv H (fun σ nb db by_ rs hb F M mj mk R => Adv.of0 F R (A_trouble F.1 R.1))
theorem C_where (H : LI f s c mr mi ml) : Ok m_w_where 0 0 (vR 10 0 1 :: []) (CallQ m_w_where m_r_where [] s (LI f s)) c mr mi ml :=
  Call.adv H (fun σ nb db by_ rs hb F M mj mk R => Adv.of0 F R (A_where F.1 R.1))
theorem C_size {x : Int32} (H : LI f s c mr mi ml) : Ok m_w_size 0 0 (vR 10 0 1 :: [vI x]) (CallQ m_w_size m_r_size [vI x] s (LI f s)) c mr mi ml :=
  Call.adv H (fun σ nb db by_ rs hb F M mj mk R => Adv.of0 F R (A_size hb F.1 R.1))
theorem C_look {x : Int32} (H : LI f s c mr mi ml) : Ok m_w_look 0 0 (vR 10 0 1 :: [vI x]) (CallQ m_w_look m_r_look [vI x] s (LI f s)) c mr mi ml :=
  Call.adv H (fun σ nb db by_ rs hb F M mj mk R => V_look hb F R)
theorem C_lose {x : Int32} (H : LI f s c mr mi ml) : Ok m_w_lose 0 0 (vR 10 0 1 :: [vI x]) (CallQ m_w_lose m_r_lose [vI x] s (LI f s)) c mr mi ml :=
  Call.adv H (fun σ nb db by_ rs hb F M mj mk R => V_lose hb F R)
theorem C_shine {x y : Int32} (H : LI f s c mr mi ml) : Ok m_w_shine 0 0 (vR 10 0 1 :: [vI x, vI y]) (CallQ m_w_shine m_r_shine [vI x, vI y] s (LI f s)) c mr mi ml :=
  Call.adv H (fun σ nb db by_ rs hb F M mj mk R => V_shine hb F R)
theorem C_stick {x y : Int32} (H : LI f s c mr mi ml) : Ok m_w_stick 0 0 (vR 10 0 1 :: [vI x, vI y]) (CallQ m_w_stick m_r_stick [vI x, vI y] s (LI f s)) c mr mi ml :=
  Call.adv H (fun σ nb db by_ rs hb F M mj mk R => V_stick hb F R)
theorem C_undo (H : LI f s c mr mi ml) : Ok m_w_undo 0 0 (vR 10 0 1 :: []) (CallQ m_w_undo m_r_undo [] s (LI f s)) c mr mi ml :=
  Call.adv H (fun σ nb db by_ rs hb F M mj mk R => V_undo hb F R)
theorem C_scan (H : LI f s c mr mi ml) : Ok m_w_scan 0 0 (vR 10 0 1 :: []) (CallQ m_w_scan m_r_scan [] s (LI f s)) c mr mi ml :=
  Call.adv H (fun σ nb db by_ rs hb F M mj mk R => V_scan hb F R)
theorem C_feed {x y z v w : Int32} (H : LI f s c mr mi ml) : Ok m_w_feed 0 0 (vR 10 0 1 :: [vI x, vI y, vI z, vI v, vI w]) (CallQ m_w_feed m_r_feed [vI x, vI y, vI z, vI v, vI w] s (LI f s)) c mr mi ml :=
  Call.adv H (fun σ nb db by_ rs hb F M mj mk R => V_feed hb F R)
end
