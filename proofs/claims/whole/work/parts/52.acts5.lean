/-! ===== acts: shine, stick, lose ===== -/
theorem WF.ac {σ : SG} (h : WF σ) : 0 ≤ σ 0 15 ∧ σ 0 15 ≤ 10 := h.2.2.2.2.2.2.1
section
variable {nb db b : Nat} {by_ rs : RX} {c : Nat} {σ σ' : SG} {mi mi' mj mj' m1 m2 : MI} {ml mk : ML} {x j : Int32}
theorem RCb.upd (hB : RCb σ nb mi) (e0 : ∀ k, k ≠ 5 → k ≠ 6 → k ≠ 7 → mi' nb k = mi nb k) (e5 : mi' nb 5 = nI (opB σ')) (e6 : mi' nb 6 = nI (shB σ')) (e7 : mi' nb 7 = zI (σ' 0 10)) (p1 : mi' (nb + 1) = mi (nb + 1)) (l : ∀ i : Nat, (i : Int) < σ 0 5 → mi' (nb + 2) i = zI (σ' 1 i)) (p3 : mi' (nb + 3) = mi (nb + 3)) (p4 : mi' (nb + 4) = mi (nb + 4)) (s0 : ∀ k, k = 5 ∨ k = 6 ∨ k = 7 ∨ k = 8 ∨ k = 9 → σ' 0 k = σ 0 k) (s3 : σ' 3 = σ 3) (s4 : σ' 4 = σ 4) : RCb σ' nb mi' := by
  obtain ⟨a1, a2, a3, a4, a5, a6, a7, a8, a9, a10, a11, a12⟩ := hB
  unfold RCb
  rw [s0 5 (by omega), s0 6 (by omega), s0 7 (by omega), s0 8 (by omega), s0 9 (by omega), s3, s4, p1, p3, p4, e0 0 (by decide) (by decide) (by decide), e0 1 (by decide) (by decide) (by decide), e0 2 (by decide) (by decide) (by decide), e0 3 (by decide) (by decide) (by decide), e0 4 (by decide) (by decide) (by decide)]
  exact ⟨a1, a2, a3, a4, a5, e5, e6, e7, a9, l, a11, a12⟩
theorem RMb.upd (hB : RMb σ mj) (p1 : mj' 49 = mj 49) (l : ∀ i : Nat, (i : Int) < σ 0 5 → mj' 54 i = zI (σ' 1 i)) (h : ∀ i : Nat, (i : Int) < σ 0 5 → mj' 54 (31 + i) = zI (σ' 2 i)) (p3 : mj' 50 = mj 50) (p4 : mj' 51 = mj 51) (s0 : ∀ k, k = 5 ∨ k = 6 ∨ k = 7 ∨ k = 8 ∨ k = 9 → σ' 0 k = σ 0 k) (s3 : σ' 3 = σ 3) (s4 : σ' 4 = σ 4) : RMb σ' mj' := by
  obtain ⟨a1, a2, a3, a4, a5⟩ := hB
  unfold RMb
  rw [s0 5 (by omega), s0 6 (by omega), s0 9 (by omega), s3, s4, p1, p3, p4]
  exact ⟨a1, l, h, a4, a5⟩
/-- how the reference changes a place -/
theorem R_changed {K : Nat} (hK : K ≤ 10) (hk : mj 48 30 = nI K) {p : Nat} (hp : p < 63) {u v : Int32} (hu : u = nI p) : ∃ m1, Ret m_r_changed [vR 19 0 48, vI u, vI v] (some (vI (mj 54 p))) c (MRc nb db by_ rs) mj mk (u2 (u2 (u2 m1 54 p v) 48 1 (nI 0)) 48 2 (-(nI 1))) mk ∧ (m1 48 30 = nI (kp1 K) ∧ m1 48 43 = nI 0 ∧ m1 48 46 = nI 0) ∧ (∀ k, k ≠ 30 → k ≠ 43 → k ≠ 46 → m1 48 k = mj 48 k) ∧ (∀ k, k < 63 → m1 56 (63 * (kp1 K - 1) + k) = mj 54 k) ∧ (∀ i k, i < kp1 K - 1 → k < 63 → m1 56 (63 * i + k) = if K < 10 then mj 56 (63 * i + k) else mj 56 (63 * (i + 1) + k)) ∧ ∀ a, a ≠ 48 → a ≠ 56 → m1 a = mj a := by
  obtain ⟨m1, p1, p2, p3, p4, p5, p6⟩ := R_remembers (nb := nb) (db := db) (by_ := by_) (rs := rs) (c := c) (mk := mk) hK hk
  refine ⟨m1, g_r_changed_0 ⟨_, _, p1, ixn hu (by omega) (by decide), ixn hu (by omega) (by decide), ?_, ?_, rfl⟩, p2, p3, p4, p5, p6⟩
  · rw [cln hu (by omega), p6 54 (by decide) (by decide)]
  · rw [cln hu (by omega)]
theorem num2 {a : Int32} {M : Nat} (hM : M < 2 ^ 31) (h : ¬ a < 0) (h2 : ¬ nI M < a) : ∃ L : Nat, L ≤ M ∧ a = nI L := by
  obtain ⟨L, hL, e⟩ := nI_of h
  rw [e, nI_ltI hM hL] at h2
  exact ⟨L, by omega, e⟩
theorem or_n {x y : Int32} {L p : Nat} (hx : x = nI L) (hy : y = nI p) (hp : p < 31) : x ||| (nI 1 <<< (y &&& 31)) = nI (L ||| 2 ^ p) := by
  have h := p2_lt hp
  rw [hx, shl_n rfl hy (by omega) (by omega), Nat.one_mul, nI_or]
theorem u2_id2 {m : MI} {a k : Nat} {v : Int32} (h : m a k = v) : u2 m a k v = m := by
  funext b j
  rw [u2_if]
  by_cases e : b = a ∧ j = k
  · rw [if_pos e, e.1, e.2, h]
  · rw [if_neg e]
theorem xv_lo (τ : SG) {i : Nat} (h : i < 31) : xv τ i = τ 1 i := by unfold xv; rw [if_pos h]
theorem xv_sh (τ : SG) {i : Nat} (h : i < 31) : xv τ (31 + i) = τ 2 i := by
  unfold xv
  rw [if_neg (show ¬ 31 + i < 31 by omega), if_pos (show 31 + i < 62 by omega), Nat.add_sub_cancel_left]
theorem xv_62 (τ : SG) : xv τ 62 = τ 0 10 := rfl
/-- an act on both sides: what is left to say is the class's bench -/
theorem act_go {K p0 : Nat} {s n b : Int} {τ : SG} {js nn bb v : Int32} (hp0 : p0 < 63) (hK : σ 0 15 = K) (hr : σ 0 0 = 1) (F : FC σ nb mi ml) (R : FR σ mj) (A : ActOf σ τ K s n b) (h10 : 0 ≤ τ 0 10 ∧ τ 0 10 < 2 ^ (σ 0 5).toNat) (hl : ∀ j, 0 ≤ τ 1 j ∧ τ 1 j ≤ 9999) (hs : ∀ j, τ 2 j = 0 ∨ τ 2 j = 1 ∨ τ 2 j = 2) (hn : 0 ≤ n ∧ n < σ 0 5) (hbo : (s = 0 ∧ 0 ≤ b ∧ b ≤ 9999) ∨ (s = 1 ∧ (b = 0 ∨ b = 1 ∨ b = 2)) ∨ s = 2) (hbb : nb = 43 ∨ nb = 5) (es : js = zI s) (en : nn = zI n) (eb : bb = zI b) (hv : v = zI (xv τ p0)) (hx : ∀ k, k < 63 → k ≠ p0 → xv τ k = xv σ k) :
    ∃ m2 MJ : MI, Ret m_ac_note [vR 18 0 39, vI js, vI nn, vI bb] none c (MRc nb db by_ rs) (u2 mi 1 9 (nI 0)) ml m2 ml ∧ Ret m_r_changed [vR 19 0 48, vI (nI p0), vI v] (some (vI (mj 54 p0))) c (MRc nb db by_ rs) (u2 mj 48 0 (nI 0)) mk MJ mk ∧ (MJ 48 1 = nI 0 ∧ MJ 48 2 = -(nI 1)) ∧ (∀ a, a ≠ 1 → a < 39 ∨ 42 < a → m2 a = mi a)
      ∧ ∀ mi' : MI, (∀ a, a ≠ 11 → ¬ (nb ≤ a ∧ a ≤ nb + 4) → mi' a = m2 a) → (∀ k, k ≠ 2 → k ≠ 3 → mi' 11 k = m2 11 k) → mi' 11 2 = nI 0 → mi' 11 3 = nI 0 → RCb τ nb mi' →
        FC τ nb mi' ml ∧ FR τ MJ ∧ (τ 4 = σ 4 ∧ τ 0 9 = σ 0 9 ∧ τ 0 5 = σ 0 5 ∧ τ 0 0 = σ 0 0 ∧ τ 0 6 = σ 0 6) ∧ (∀ a, 19 ≤ a → a ≤ 38 → mi' a = mi a) ∧ (∀ a, (a = 0 ∨ 48 ≤ a) → mi' a = mi a) ∧ (∀ a, a < 48 ∨ 65 < a → MJ a = mj a) := by
  have I := F.1
  have J := R.1
  have hW := I.1
  have hac := hW.ac
  have hnn := hW.nn
  have hK10 : K ≤ 10 := by omega
  have h39 : (u2 mi 1 9 (nI 0)) 39 0 = nI K := by
    have : mi 39 0 = zI (σ 0 15) := I.2.1.2.2.2.2.2.2.2.2.2.2
    rw [u2_o _ _ (by decide), this, hK]; rfl
  have h30 : (u2 mj 48 0 (nI 0)) 48 30 = nI K := by
    have : mj 48 30 = zI (σ 0 15) := J.2.1.2.2.2.2.2.1
    rw [u2_ne2 _ _ (Or.inr (by decide)), this, hK]; rfl
  obtain ⟨m2, n0, n1, n2, n3, n4⟩ := R_note (nb := nb) (db := db) (by_ := by_) (rs := rs) (c := c) (ml := ml) (K := K) hK10 h39 js nn bb
  obtain ⟨m1, r0, r1, r2, r3, r4, r5⟩ := R_changed (nb := nb) (db := db) (by_ := by_) (rs := rs) (c := c) (mk := mk) (K := K) hK10 h30 (p := p0) (u := nI p0) (v := v) hp0 rfl
  have ex : (u2 mj 48 0 (nI 0)) 54 p0 = mj 54 p0 := by rw [u2_o _ _ (by decide)]
  rw [ex] at r0
  have hrow : ∀ k, k < 63 → rel σ k → (u2 (u2 (u2 m1 54 p0 v) 48 1 (nI 0)) 48 2 (-(nI 1))) 54 k = zI (xv τ k) := fun k hk hrel => by
    rw [u2_o _ _ (by decide), u2_o _ _ (by decide), u2_if]
    by_cases e : k = p0
    · rw [if_pos ⟨rfl, e⟩, e, hv]
    · rw [if_neg (fun z => e z.2), r5 54 (by decide) (by decide), u2_o _ _ (by decide), xv_ref J.2.2 J.2.1.lo hnn.2 hk hrel, hx k hk e]
  have hq : ∀ a, a ≠ 48 → a ≠ 54 → a ≠ 56 → (u2 (u2 (u2 m1 54 p0 v) 48 1 (nI 0)) 48 2 (-(nI 1))) a = mj a := fun a h1 h2 h3 => by rw [u2_o _ _ h1, u2_o _ _ h1, u2_o _ _ h2, r5 a h1 h3, u2_o _ _ h1]
  have s0 : ∀ k, k = 5 ∨ k = 6 ∨ k = 7 ∨ k = 8 ∨ k = 9 → τ 0 k = σ 0 k := fun k hk => A.1 k (by omega) (by omega) (by omega) (by omega) (by omega)
  refine ⟨m2, _, n0, r0, ⟨by rw [u2_ne2 _ _ (Or.inr (by decide)), u2_s], u2_s _ _ _ _⟩, fun a h1 h2 => by rw [n4 a h2, u2_o _ _ h1], fun mi' c1 c11 c2 c3 cB => ?_⟩
  exact act_all (m1 := m1) (m2 := m2) hK10 hK hr F R A h10 hl hs hn hbo hbb n1 ⟨by rw [n2.1, es], by rw [n2.2.1, en], by rw [n2.2.2, eb]⟩ (fun a ha k hk => by rw [n3 a ha k hk, u2_o _ _ (by omega)]) n4 c1 c11 c2 c3 cB r1 (fun k z0 h1 h2 h3 => by rw [r2 k h1 h2 h3, u2_ne2 _ _ (Or.inr z0)]) (fun k hk => by rw [r3 k hk, u2_o _ _ (by decide)]) (fun i k h1 h2 => by rw [r4 i k h1 h2, u2_o _ _ (by decide)]) (fun q h1 h2 => by rw [r5 q h1 h2, u2_o _ _ h1])
    (fun q h1 h2 => by rw [u2_o _ _ h1, u2_o _ _ h1, u2_o _ _ h2]) (fun k h1 h2 => by rw [u2_ne2 _ _ (Or.inr h2), u2_ne2 _ _ (Or.inr h1), u2_o _ _ (by decide)]) (by rw [u2_ne2 _ _ (Or.inr (by decide)), u2_s]) (u2_s _ _ _ _)
    (J.2.2.upd (hq 49 (by decide) (by decide) (by decide)) (fun i hi => by
      have h31 := InK.n31 hW hi
      rw [hrow i (by omega) (Or.inl hi), xv_lo τ h31]) (fun i hi => by
      have h31 := InK.n31 hW hi
      rw [hrow (31 + i) (by omega) (Or.inr (Or.inl ⟨by omega, by omega⟩)), xv_sh τ h31]) (hq 50 (by decide) (by decide) (by decide)) (hq 51 (by decide) (by decide) (by decide)) s0 A.2.2.2.2.2.1 A.2.2.2.2.2.2.1)
    (by rw [hrow 62 (by decide) (Or.inr (Or.inr rfl)), xv_62])
theorem V_shine {a : Int32} (hb : nb = 43 ∧ db = 5 ∨ nb = 5 ∧ db = 43) (F : FC σ nb mi ml) (R : FR σ mj) : Adv m_w_shine m_r_shine [vI j, vI a] nb db by_ rs σ mi ml mj mk := by
  have I := F.1
  have J := R.1
  have hW := I.1
  have hs := J.2.1
  have hbb := hbb_of hb
  by_cases h : InK σ 5 j
  · by_cases h1 : a < 0
    · exact Adv.ofA hb F R (Agr.mk (vI (-(nI 1))) 2 (by decide) (fun c => g_w_shine_0 hb ⟨_, _, _, R_one_t hb I h, fun g => absurd g n10, fun _ => ⟨fun _ => ⟨rfl, (u2_u2 _ _ _ _ _).symm, rfl⟩, fun g => absurd h1 g⟩⟩) (fun c => g_r_shine_0 ⟨_, R_is_t hW (RMs_th hs _) h, fun _ => ⟨fun _ => ⟨rfl, rfl, rfl⟩, fun g => absurd h1 g⟩, fun g => absurd g n10⟩))
    by_cases h2 : nI 9999 < a
    · exact Adv.ofA hb F R (Agr.mk (vI (-(nI 1))) 2 (by decide) (fun c => g_w_shine_0 hb ⟨_, _, _, R_one_t hb I h, fun g => absurd g n10, fun _ => ⟨fun g => absurd g h1, fun _ => ⟨fun _ => ⟨rfl, (u2_u2 _ _ _ _ _).symm, rfl⟩, fun g => absurd h2 g⟩⟩⟩) (fun c => g_r_shine_0 ⟨_, R_is_t hW (RMs_th hs _) h, fun _ => ⟨fun g => absurd g h1, fun _ => ⟨fun _ => ⟨rfl, rfl, rfl⟩, fun g => absurd h2 g⟩⟩, fun g => absurd g n10⟩))
    obtain ⟨L, hL, eL⟩ := num2 (by decide) h1 h2
    obtain ⟨p, ep, hp⟩ := h.nat
    have hp31 := InK.n31 hW hp
    have hac := hW.ac
    obtain ⟨K, hK⟩ : ∃ K : Nat, σ 0 15 = K := ⟨(σ 0 15).toNat, by omega⟩
    have hB := I.2.2 h.1
    have hli := hW.lights p
    intro c
    obtain ⟨τ, hσ⟩ : ∃ τ : SG, τ = u2 (actS σ K 0 p (σ 1 p)) 1 p (L : Int) := ⟨_, rfl⟩
    have t1 : ∀ k, τ 1 k = if k = p then (L : Int) else σ 1 k := fun k => by
      rw [hσ, u2_if]
      by_cases e : k = p
      · rw [if_pos ⟨rfl, e⟩, if_pos e]
      · rw [if_neg (fun z => e z.2), if_neg e]; rfl
    have t2 : τ 2 = σ 2 := by rw [hσ, u2_o _ _ (by decide)]; rfl
    have t10 : τ 0 10 = σ 0 10 := by rw [hσ, u2_o _ _ (by decide)]; rfl
    have hx : ∀ k, k < 63 → k ≠ p → xv τ k = xv σ k := fun k hk e => by
      unfold xv
      rw [t1, t2, t10, if_neg e]
    have A : ActOf σ τ K 0 p (σ 1 p) := by
      rw [hσ]
      refine actS_of σ K 0 p (σ 1 p) 1 p L (by omega) (fun k hk => ?_)
      rw [← hσ]
      unfold und
      rw [if_pos rfl, Int.toNat_natCast]
      by_cases e : k = p
      · rw [if_pos e, e, xv_lo σ hp31]
      · rw [if_neg e, hx k hk e]
    have s0 : ∀ k, k = 5 ∨ k = 6 ∨ k = 7 ∨ k = 8 ∨ k = 9 → τ 0 k = σ 0 k := fun k hk => A.1 k (by omega) (by omega) (by omega) (by omega) (by omega)
    have hop : opB τ = opB σ := by unfold opB; rw [t2, s0 5 (by omega)]
    have hsh : shB τ = shB σ := by unfold shB; rw [t2, s0 5 (by omega)]
    obtain ⟨m2, MJ, n0, r0, -, mB, go⟩ := act_go (c := c) (db := db) (by_ := by_) (rs := rs) (mk := mk) (p0 := p) (js := nI 0) (nn := j) (bb := zI (σ 1 p)) (v := a) (by omega) hK h.1 F R A (by rw [t10]; exact hW.lost) (fun k => by
      rw [t1]
      by_cases e : k = p
      · rw [if_pos e]; omega
      · rw [if_neg e]; exact hW.lights k) (fun k => by rw [t2]; exact hW.shut k) ⟨by omega, hp⟩ (Or.inl ⟨rfl, hli⟩) hbb rfl (by rw [ep]; rfl) rfl (by rw [xv_lo τ hp31, t1, if_pos rfl, eL]; rfl) hx
    rw [J.2.2.2.1 p hp] at r0
    have el : (u2 mi 1 9 (nI 0)) (nb + 2) j.toNatClampNeg = zI (σ 1 p) := by rw [u2_o _ _ (by omega), cln ep (by omega), hB.li hp]
    obtain ⟨g1, g2, g3, g4, g5, g6⟩ := go (u2 (u2 (u2 m2 (nb + 2) p a) 11 2 (nI 0)) 11 3 (nI 0)) (fun q h1 h2 => by rw [u2_o _ _ h1, u2_o _ _ h1, u2_o _ _ (by omega)]) (fun k h2 h3 => by rw [u2_ne2 _ _ (Or.inr h3), u2_ne2 _ _ (Or.inr h2), u2_o _ _ (by omega)]) (by rw [u2_ne2 _ _ (Or.inr (by decide)), u2_s]) (u2_s _ _ _ _)
      (hB.upd (fun k _ _ _ => by rw [u2_o _ _ (by omega), u2_o _ _ (by omega), u2_o _ _ (by omega), mB nb (by omega) (by omega)]) (by rw [u2_o _ _ (by omega), u2_o _ _ (by omega), u2_o _ _ (by omega), mB nb (by omega) (by omega), hB.2.2.2.2.2.1, hop]) (by rw [u2_o _ _ (by omega), u2_o _ _ (by omega), u2_o _ _ (by omega), mB nb (by omega) (by omega), hB.2.2.2.2.2.2.1, hsh]) (by rw [u2_o _ _ (by omega), u2_o _ _ (by omega), u2_o _ _ (by omega), mB nb (by omega) (by omega), hB.2.2.2.2.2.2.2.1, t10]) (by rw [u2_o _ _ (by omega), u2_o _ _ (by omega), u2_o _ _ (by omega), mB (nb + 1) (by omega) (by omega)]) (fun i hi => by
        rw [u2_o _ _ (by omega), u2_o _ _ (by omega), u2_if, t1]
        by_cases e : i = p
        · rw [if_pos ⟨rfl, e⟩, if_pos e, eL]; rfl
        · rw [if_neg (fun z => e z.2), if_neg e, mB (nb + 2) (by omega) (by omega), hB.li hi]) (by rw [u2_o _ _ (by omega), u2_o _ _ (by omega), u2_o _ _ (by omega), mB (nb + 3) (by omega) (by omega)]) (by rw [u2_o _ _ (by omega), u2_o _ _ (by omega), u2_o _ _ (by omega), mB (nb + 4) (by omega) (by omega)]) s0 A.2.2.2.2.2.1 A.2.2.2.2.2.2.1)
    refine ⟨vI (zI (σ 1 p)), τ, _, ml, _, mk, g_w_shine_0 hb ⟨_, _, _, R_one_t hb I h, fun g => absurd g n10, fun _ => ⟨fun g => absurd g h1, fun _ => ⟨fun g => absurd g h2, fun _ => ⟨ixn ep (by omega) (by decide), m2, ml, ?_, ixn ep (by omega) (by decide), ?_, ?_, rfl⟩⟩⟩⟩, g_r_shine_0 ⟨_, R_is_t hW (RMs_th hs _) h, fun _ => ⟨fun g => absurd g h1, fun _ => ⟨fun g => absurd g h2, fun _ => ⟨_, _, _, ?_, rfl, rfl, rfl⟩⟩⟩, fun g => absurd g n10⟩, g1, g2, g3, g4, g5, fun _ _ => rfl, g6, fun _ _ => rfl, rfl⟩
    · rw [u2_u2, el]; exact n0
    · rw [el]
    · rw [cln ep (by omega)]
    · rw [ep]; exact r0
  · exact Adv.ofA hb F R (Agr.mk (vI (-(nI 1))) 1 (by decide) (fun c => g_w_shine_0 hb ⟨_, _, _, R_one_f hb I h, fun _ => ⟨rfl, rfl, rfl⟩, fun g => absurd rfl g⟩) (fun c => g_r_shine_0 ⟨_, R_is_f hW (RMs_th hs _) h, fun g => absurd rfl g, fun _ => ⟨rfl, rfl, rfl⟩⟩))
end
