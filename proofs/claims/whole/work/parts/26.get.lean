/-! ===== what a call asks for; calls that only tell ===== -/
def InK (σ : SG) (k : Nat) (j : Int32) : Prop := σ 0 0 = 1 ∧ 0 ≤ j.toInt ∧ j.toInt < σ 0 k
theorem InK.fac {σ : SG} {k : Nat} {j x m : Int32} (hk : σ 0 k < 2147483648) (hx : x = zI (σ 0 0)) (hm : σ 0 0 = 1 → m = zI (σ 0 k)) (h : InK σ k j) : ¬ x = 0 ∧ ¬ j < 0 ∧ ¬ m ≤ j := by
  obtain ⟨h1, h2, h3⟩ := h
  refine ⟨fun z => ?_, fun z => ?_, fun z => ?_⟩
  · rw [hx, h1] at z; exact absurd z (by decide)
  · rw [Int32.lt_iff_toInt_lt] at z
    exact absurd h2 (by simpa using z)
  · rw [hm h1, Int32.le_iff_toInt_le, zI_toInt ⟨by omega, by omega⟩] at z
    omega
theorem nInK.fac {σ : SG} {k : Nat} {j x m : Int32} (hr : σ 0 0 = 0 ∨ σ 0 0 = 1) (hk0 : 0 ≤ σ 0 k) (hk : σ 0 k < 2147483648) (hx : x = zI (σ 0 0)) (hm : σ 0 0 = 1 → m = zI (σ 0 k)) (h : ¬ InK σ k j) : x = 0 ∨ j < 0 ∨ m ≤ j := by
  rcases hr with z | z
  · left; rw [hx, z]; rfl
  · right
    by_cases h2 : 0 ≤ j.toInt
    · right
      rw [hm z, Int32.le_iff_toInt_le, zI_toInt ⟨by omega, by omega⟩]
      by_cases h3 : j.toInt < σ 0 k
      · exact absurd ⟨z, h2, h3⟩ h
      · omega
    · left
      rw [Int32.lt_iff_toInt_lt]
      have : (0 : Int32).toInt = 0 := rfl
      omega
theorem InK.nat {σ : SG} {k : Nat} {j : Int32} (h : InK σ k j) : ∃ i : Nat, j = nI i ∧ (i : Int) < σ 0 k := by
  obtain ⟨-, h1, h2⟩ := h
  refine ⟨j.toInt.toNat, ?_, by omega⟩
  rw [nI_z, show ((j.toInt.toNat : Nat) : Int) = j.toInt by omega]
  exact zI_of j
theorem in3_t {x m a : Int32} {A A' A'' B : Prop} (h : ¬ x = 0 ∧ ¬ a < 0 ∧ ¬ m ≤ a) (hB : B) : (x = 0 → A) ∧ (¬ x = 0 → ((a < 0 → A') ∧ (¬ a < 0 → ((m ≤ a → A'') ∧ (¬ m ≤ a → B))))) :=
  ⟨fun z => absurd z h.1, fun _ => ⟨fun z => absurd z h.2.1, fun _ => ⟨fun z => absurd z h.2.2, fun _ => hB⟩⟩⟩
theorem in3_f {x m a : Int32} {A B : Prop} (h : x = 0 ∨ a < 0 ∨ m ≤ a) (hA : A) : (x = 0 → A) ∧ (¬ x = 0 → ((a < 0 → A) ∧ (¬ a < 0 → ((m ≤ a → A) ∧ (¬ m ≤ a → B))))) :=
  ⟨fun _ => hA, fun z => ⟨fun _ => hA, fun z2 => ⟨fun _ => hA, fun z3 => by rcases h with h | h | h <;> contradiction⟩⟩⟩
/-- the class: its base; the reference: its base -/
def IC (σ : SG) (nb : Nat) (mi : MI) : Prop := WF σ ∧ RCs σ mi ∧ (σ 0 0 = 1 → RCb σ nb mi)
def IR (σ : SG) (mj : MI) : Prop := WF σ ∧ RMs σ mj ∧ RMb σ mj
theorem WF.ms {σ : SG} (h : WF σ) : 0 ≤ σ 0 9 ∧ σ 0 9 ≤ 12 := by
  rcases h.1 with h | h <;> omega
theorem WF.lg {σ : SG} (h : WF σ) : 0 ≤ σ 0 11 ∧ σ 0 11 ≤ 20 := h.2.2.2.2.1
theorem WF.nn {σ : SG} (h : WF σ) : 0 ≤ σ 0 5 ∧ σ 0 5 ≤ 31 := by
  obtain ⟨n, hn, h31⟩ := wf_n h
  omega
/-- what a call that only tells may change of the class's ints -/
def FCw (mi mi' : MI) (w : Nat) : Prop := mi' 1 9 = nI w ∧ (∀ k, k ≠ 9 → mi' 1 k = mi 1 k) ∧ ∀ a, a ≠ 1 → a ≠ 18 → mi' a = mi a
/-- .. of the reference's ints, longs -/
def FRw (mj mj' : MI) (w : Nat) : Prop := mj' 48 1 = nI w ∧ mj' 48 2 = -(nI 1) ∧ (∀ k, 3 ≤ k → k ≤ 50 → mj' 48 k = mj 48 k) ∧ ∀ a, a ≠ 48 → (a < 61 ∨ 65 < a) → mj' a = mj a
def FLw (mk mk' : ML) : Prop := ∀ a, (a < 48 ∨ 65 < a) → mk' a = mk a
/-- an answer of the kind that a method has -/
def isV (y : Nat) (v : AV) : Bool := match mRt y with
  | some .long => (match v with
    | .inr (.inl _) => true
    | _ => false)
  | _ => (match v with
    | .inl _ => true
    | _ => false)
/-- class and reference answer alike, and only tell -/
def Agr (yw yr : Nat) (as : List AV) (nb db : Nat) (by_ rs : RX) (mi : MI) (ml : ML) (mj : MI) (mk : ML) : Prop :=
  ∀ c : Nat, ∃ (v : AV) (w : Nat) (mi' mj' : MI) (mk' : ML), w ≤ 5 ∧ w ≠ 4 ∧ Ret yw (vR 10 0 1 :: as) (some v) c (MRc nb db by_ rs) mi ml mi' ml ∧ Ret yr (vR 19 0 48 :: as) (some v) c (MRc nb db by_ rs) mj mk mj' mk' ∧ FCw mi mi' w ∧ FRw mj mj' w ∧ FLw mk mk' ∧ isV yw v = true
theorem u2_u2 {α : Type} (f : Nat → Nat → α) (a k : Nat) (v w : α) : u2 (u2 f a k v) a k w = u2 f a k w := by
  funext b j
  by_cases e : b = a
  · subst e
    by_cases e2 : j = k
    · subst e2; simp [u2]
    · simp [u2, e2]
  · simp [u2, e]
theorem FCw.one (mi : MI) (w : Nat) : FCw mi (u2 mi 1 9 (nI w)) w :=
  ⟨u2_s _ _ _ _, fun k hk => u2_ne2 _ _ (Or.inr hk), fun a ha _ => by funext j; exact u2_ne2 _ _ (Or.inl ha)⟩
theorem FRw.one (mj : MI) (w : Nat) : FRw mj (T3 mj w) w := by
  unfold T3
  refine ⟨?_, u2_s _ _ _ _, fun k h3 _ => ?_, fun a ha _ => ?_⟩
  · rw [u2_ne2 _ _ (Or.inr (by decide)), u2_s]
  · rw [u2_ne2 _ _ (Or.inr (by omega)), u2_ne2 _ _ (Or.inr (by omega)), u2_ne2 _ _ (Or.inr (by omega))]
  · funext j
    rw [u2_ne2 _ _ (Or.inl ha), u2_ne2 _ _ (Or.inl ha), u2_ne2 _ _ (Or.inl ha)]
theorem Agr.mk {yw yr : Nat} {as : List AV} {nb db : Nat} {by_ rs : RX} {mi : MI} {ml : ML} {mj : MI} {mk : ML} (v : AV) (w : Nat) (hw : w ≤ 5 ∧ w ≠ 4) (h1 : ∀ c, Ret yw (vR 10 0 1 :: as) (some v) c (MRc nb db by_ rs) mi ml (u2 mi 1 9 (nI w)) ml) (h2 : ∀ c, Ret yr (vR 19 0 48 :: as) (some v) c (MRc nb db by_ rs) mj mk (T3 mj w) mk) (hv : isV yw v = true := by rfl) : Agr yw yr as nb db by_ rs mi ml mj mk :=
  fun c => ⟨v, w, _, _, _, hw.1, hw.2, h1 c, h2 c, FCw.one _ _, FRw.one _ _, fun _ _ => rfl, hv⟩
section
variable {nb db : Nat} {by_ rs : RX} {c : Nat} {σ : SG} {mi mj : MI} {ml mk : ML} {j : Int32}
theorem R_one_t (hb : nb = 43 ∧ db = 5 ∨ nb = 5 ∧ db = 43) (I : IC σ nb mi) (h : InK σ 5 j) : Ret m_w_haveOne [vR 10 0 1, vI j] (some (vI (nI 1))) c (MRc nb db by_ rs) mi ml (u2 mi 1 9 (nI 0)) ml :=
  g_w_haveOne_0 hb (in3_t (h.fac (by have := I.1.nn; omega) I.2.1.1 (fun z => (I.2.2 z).1)) ⟨rfl, rfl, rfl⟩)
theorem R_one_f (hb : nb = 43 ∧ db = 5 ∨ nb = 5 ∧ db = 43) (I : IC σ nb mi) (h : ¬ InK σ 5 j) : Ret m_w_haveOne [vR 10 0 1, vI j] (some (vI (nI 0))) c (MRc nb db by_ rs) mi ml (u2 mi 1 9 (nI 1)) ml :=
  g_w_haveOne_0 hb (in3_f (nInK.fac (rd_01 I.1) I.1.nn.1 (by have := I.1.nn; omega) I.2.1.1 (fun z => (I.2.2 z).1) h) ⟨rfl, rfl, rfl⟩)
theorem R_is_t (hW : WF σ) (hs : RMs σ mj) (h : InK σ 5 j) : Ret m_r_isOne [vR 19 0 48, vI j] (some (vI (nI 1))) c (MRc nb db by_ rs) mj mk mj mk :=
  g_r_isOne_0 (in3_t (h.fac (by have := hW.nn; omega) hs.rd (fun _ => hs.2.2.1)) ⟨rfl, rfl, rfl⟩)
theorem R_is_f (hW : WF σ) (hs : RMs σ mj) (h : ¬ InK σ 5 j) : Ret m_r_isOne [vR 19 0 48, vI j] (some (vI (nI 0))) c (MRc nb db by_ rs) mj mk mj mk :=
  g_r_isOne_0 (in3_f (nInK.fac (rd_01 hW) hW.nn.1 (by have := hW.nn; omega) hs.rd (fun _ => hs.2.2.1) h) ⟨rfl, rfl, rfl⟩)
theorem n10 : ¬ nI 1 = 0 := by decide
theorem e00 : nI 0 = (0 : Int32) := rfl
theorem InK.n31 {σ : SG} {i : Nat} (hW : WF σ) (h : (i : Int) < σ 0 5) : i < 31 := by have := hW.nn; omega
theorem A_plate (hb : nb = 43 ∧ db = 5 ∨ nb = 5 ∧ db = 43) (I : IC σ nb mi) (J : IR σ mj) : Agr m_w_plate m_r_plate [vI j] nb db by_ rs mi ml mj mk := by
  obtain ⟨hW, hs, hB⟩ := J
  by_cases h : InK σ 5 j
  · obtain ⟨i, rfl, hi⟩ := h.nat
    have h31 := InK.n31 hW hi
    refine Agr.mk (vI (nI (plN (σ 0 6).toNat (σ 0 5).toNat i))) 0 (by decide) (fun c => g_w_plate_0 hb ⟨_, _, _, R_one_t hb I h, fun z => absurd z n10, fun _ => ⟨in31 h31, ?_, rfl, rfl⟩⟩) (fun c => g_r_plate_0 ⟨_, R_is_t hW (RMs_th hs _) h, fun z => absurd z n10, fun _ => ⟨in31 h31, ?_, rfl, rfl⟩⟩)
    · rw [cl31 h31, ((I.2.2 h.1).w (hbb_of hb) (nI 0)).pl hi]
    · rw [cl31 h31, hB.1 i hi]
  · exact Agr.mk (vI (-(nI 1))) 1 (by decide) (fun c => g_w_plate_0 hb ⟨_, _, _, R_one_f hb I h, fun _ => ⟨rfl, rfl, rfl⟩, fun z => absurd rfl z⟩) (fun c => g_r_plate_0 ⟨_, R_is_f hW (RMs_th hs _) h, fun _ => ⟨rfl, rfl, rfl⟩, fun z => absurd rfl z⟩)
theorem A_light (hb : nb = 43 ∧ db = 5 ∨ nb = 5 ∧ db = 43) (I : IC σ nb mi) (J : IR σ mj) : Agr m_w_light m_r_light [vI j] nb db by_ rs mi ml mj mk := by
  obtain ⟨hW, hs, hB⟩ := J
  by_cases h : InK σ 5 j
  · obtain ⟨i, rfl, hi⟩ := h.nat
    have h31 := InK.n31 hW hi
    refine Agr.mk (vI (zI (σ 1 i))) 0 (by decide) (fun c => g_w_light_0 hb ⟨_, _, _, R_one_t hb I h, fun z => absurd z n10, fun _ => ⟨in31 h31, ?_, rfl, rfl⟩⟩) (fun c => g_r_light_0 ⟨_, R_is_t hW (RMs_th hs _) h, fun z => absurd z n10, fun _ => ⟨vp_in_nI (by omega) (by decide), ?_, rfl, rfl⟩⟩)
    · rw [cl31 h31, ((I.2.2 h.1).w (hbb_of hb) (nI 0)).li hi]
    · rw [cl31 h31, hB.2.1 i hi]
  · exact Agr.mk (vI (-(nI 1))) 1 (by decide) (fun c => g_w_light_0 hb ⟨_, _, _, R_one_f hb I h, fun _ => ⟨rfl, rfl, rfl⟩, fun z => absurd rfl z⟩) (fun c => g_r_light_0 ⟨_, R_is_f hW (RMs_th hs _) h, fun _ => ⟨rfl, rfl, rfl⟩, fun z => absurd rfl z⟩)
theorem A_noise (hb : nb = 43 ∧ db = 5 ∨ nb = 5 ∧ db = 43) (I : IC σ nb mi) (J : IR σ mj) : Agr m_w_noise m_r_noise [vI j] nb db by_ rs mi ml mj mk := by
  obtain ⟨hW, hs, hB⟩ := J
  by_cases h : InK σ 5 j
  · obtain ⟨i, rfl, hi⟩ := h.nat
    have h31 := InK.n31 hW hi
    refine Agr.mk (vI (zI (σ 3 i))) 0 (by decide) (fun c => g_w_noise_0 hb ⟨_, _, _, R_one_t hb I h, fun z => absurd z n10, fun _ => ⟨in31 h31, ?_, rfl, rfl⟩⟩) (fun c => g_r_noise_0 ⟨_, R_is_t hW (RMs_th hs _) h, fun z => absurd z n10, fun _ => ⟨in31 h31, ?_, rfl, rfl⟩⟩)
    · rw [cl31 h31, ((I.2.2 h.1).w (hbb_of hb) (nI 0)).no hi]
    · rw [cl31 h31, hB.2.2.2.1 i hi]
  · exact Agr.mk (vI (-(nI 2147483648))) 1 (by decide) (fun c => g_w_noise_0 hb ⟨_, _, _, R_one_f hb I h, fun _ => ⟨rfl, rfl, rfl⟩, fun z => absurd rfl z⟩) (fun c => g_r_noise_0 ⟨_, R_is_f hW (RMs_th hs _) h, fun _ => ⟨rfl, rfl, rfl⟩, fun z => absurd rfl z⟩)
theorem A_shutter (hb : nb = 43 ∧ db = 5 ∨ nb = 5 ∧ db = 43) (I : IC σ nb mi) (J : IR σ mj) : Agr m_w_shutter m_r_shutter [vI j] nb db by_ rs mi ml mj mk := by
  obtain ⟨hW, hs, hB⟩ := J
  by_cases h : InK σ 5 j
  · obtain ⟨i, rfl, hi⟩ := h.nat
    have h31 := InK.n31 hW hi
    have hBn := (I.2.2 h.1).w (hbb_of hb) (nI 0)
    have e5 := op_at hW hi h31
    have e6 := sh_at hW hi h31
    rw [← hBn.2.2.2.2.2.1] at e5
    rw [← hBn.2.2.2.2.2.2.1] at e6
    have e31 : nI 31 + nI i = nI (31 + i) := nI_add _ _
    refine Agr.mk (vI (zI (σ 2 i))) 0 (by decide) (fun c => g_w_shutter_0 hb ⟨_, _, _, R_one_t hb I h, fun z => absurd z n10, fun _ => ⟨fun g => ⟨fun g2 => ⟨?_, rfl, rfl⟩, fun g2 => ⟨?_, rfl, rfl⟩⟩, fun g => ⟨?_, rfl, rfl⟩⟩⟩) (fun c => g_r_shutter_0 ⟨_, R_is_t hW (RMs_th hs _) h, fun z => absurd z n10, fun _ => ⟨ixn e31 (by omega) (by decide), ?_, rfl, rfl⟩⟩)
    · rw [e5] at g
      rw [e6] at g2
      rcases hW.shut i with z | z | z
      · rw [z]; rfl
      · rw [z] at g; exact absurd rfl g
      · rw [z] at g2; exact absurd rfl g2
    · rw [e6] at g2
      rcases hW.shut i with z | z | z
      · rw [z] at g2; exact absurd g2 (by decide)
      · rw [z] at g2; exact absurd g2 (by decide)
      · rw [z]; rfl
    · rw [e5] at g
      rcases hW.shut i with z | z | z
      · rw [z] at g; exact absurd g (by decide)
      · rw [z]; rfl
      · rw [z] at g; exact absurd g (by decide)
    · rw [cln e31 (by omega), hB.2.2.1 i hi]
  · exact Agr.mk (vI (-(nI 1))) 1 (by decide) (fun c => g_w_shutter_0 hb ⟨_, _, _, R_one_f hb I h, fun _ => ⟨rfl, rfl, rfl⟩, fun z => absurd rfl z⟩) (fun c => g_r_shutter_0 ⟨_, R_is_f hW (RMs_th hs _) h, fun _ => ⟨rfl, rfl, rfl⟩, fun z => absurd rfl z⟩)
theorem RCb.lo {nb : Nat} (hW : WF σ) (h : RCb σ nb mi) : mi nb 7 = nI (loB σ) := by rw [h.2.2.2.2.2.2.2.1, lo_nI hW]
theorem RMs.lob (hW : WF σ) (h : RMs σ mj) : mj 54 62 = nI (loB σ) := by rw [h.lo, lo_nI hW]
theorem A_lost (hb : nb = 43 ∧ db = 5 ∨ nb = 5 ∧ db = 43) (I : IC σ nb mi) (J : IR σ mj) : Agr m_w_lost m_r_lost [vI j] nb db by_ rs mi ml mj mk := by
  obtain ⟨hW, hs, hB⟩ := J
  by_cases h : InK σ 5 j
  · obtain ⟨i, rfl, hi⟩ := h.nat
    have h31 := InK.n31 hW hi
    have e := bit_i (((I.2.2 h.1).w (hbb_of hb) (nI 0)).lo hW) rfl (lo_lt hW) (show i < 32 by omega)
    have z := bt_01 (loB σ) i
    refine Agr.mk (vI (nI (bt (loB σ) i))) 0 (by decide) (fun c => g_w_lost_0 hb ⟨_, _, _, R_one_t hb I h, fun _ => ⟨fun g => ⟨?_, rfl, rfl⟩, fun g => ⟨?_, rfl, rfl⟩⟩, fun z => absurd z n10⟩) (fun c => g_r_lost_0 ⟨_, R_is_t hW (RMs_th hs _) h, fun z => absurd z n10, fun _ => ⟨_, R_has (RMs.lob hW hs) rfl (lo_lt hW) (by omega), fun g => ⟨?_, rfl, rfl⟩, fun g => ⟨?_, rfl, rfl⟩⟩⟩)
    · rw [e] at g
      rcases z with z | z
      · rw [z]
      · rw [z] at g; exact absurd rfl g
    · rw [e, nI_01 z] at g; rw [g]
    · rcases z with z | z
      · rw [z]
      · rw [z] at g; exact absurd g (by decide)
    · rcases z with z | z
      · rw [z] at g; exact absurd rfl g
      · rw [z]
  · exact Agr.mk (vI (-(nI 1))) 1 (by decide) (fun c => g_w_lost_0 hb ⟨_, _, _, R_one_f hb I h, fun z => absurd rfl z, fun _ => ⟨rfl, rfl, rfl⟩⟩) (fun c => g_r_lost_0 ⟨_, R_is_f hW (RMs_th hs _) h, fun _ => ⟨rfl, rfl, rfl⟩, fun z => absurd rfl z⟩)
theorem A_mask (hb : nb = 43 ∧ db = 5 ∨ nb = 5 ∧ db = 43) (I : IC σ nb mi) (J : IR σ mj) : Agr m_w_mask m_r_mask [vI j] nb db by_ rs mi ml mj mk := by
  obtain ⟨hW, hs, hB⟩ := J
  have h12 := hW.ms
  have c4 : σ 0 0 = 1 → mi nb 4 = zI (σ 0 9) := fun z => (I.2.2 z).2.2.2.2.1
  have c9 : σ 0 0 = 1 → mj 48 9 = zI (σ 0 9) := fun _ => hs.2.2.2.1
  by_cases h : InK σ 9 j
  · obtain ⟨i, rfl, hi⟩ := h.nat
    refine Agr.mk (vI (zI (σ 4 i))) 0 (by decide) (fun c => g_w_mask_0 hb (in3_t (h.fac (by omega) I.2.1.1 c4) ⟨vp_in_nI (by omega) (by decide), ?_, rfl, rfl⟩)) (fun c => g_r_mask_0 (in3_t (h.fac (by omega) hs.rd c9) ⟨vp_in_nI (by omega) (by decide), ?_, rfl, rfl⟩))
    · rw [nI_clamp (by omega), (I.2.2 h.1).mk hi]
    · rw [nI_clamp (by omega), hB.2.2.2.2 i hi]
  · exact Agr.mk (vI (-(nI 1))) 1 (by decide) (fun c => g_w_mask_0 hb (in3_f (nInK.fac (rd_01 hW) h12.1 (by omega) I.2.1.1 c4 h) ⟨rfl, rfl, rfl⟩)) (fun c => g_r_mask_0 (in3_f (nInK.fac (rd_01 hW) h12.1 (by omega) hs.rd c9 h) ⟨rfl, rfl, rfl⟩))
end
