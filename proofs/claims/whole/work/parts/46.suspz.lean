/-! ===== suspects: the three calls ===== -/
/-- the log's numbers -/
def WL (σ : SG) : Prop := ∀ i : Nat, (i : Int) < σ 0 11 → (0 ≤ σ 5 i ∧ σ 5 i < 2147483648) ∧ 0 ≤ σ 6 i ∧ σ 6 i ≤ 310968
def HS (σ : SG) : Prop := σ 0 12 = 1 ∧ los σ = 0
theorem pcN_z : ∀ k n, n < 2 ^ k → pcN k n = 0 → n = 0
  | 0, n, h, _ => by simp at h; exact h
  | k + 1, n, h, hp => by
    have hp : n % 2 + pcN k (n / 2) = 0 := hp
    have := pcN_z k (n / 2) (by rw [Nat.pow_succ] at h; omega) (by omega)
    omega
section
variable {nb db b : Nat} {by_ rs : RX} {c : Nat} {σ : SG} {mi mj : MI} {ml mk : ML} {x j : Int32}
theorem los_0 (hW : WF σ) : los σ = 0 ↔ loB σ = 0 := by
  constructor
  · intro h; exact pcN_z 32 _ (Nat.lt_trans (lo_lt hW) (by decide)) h
  · intro h; unfold los; rw [h]; exact pcN_0 32
theorem R_hsn (hb : nb = 43 ∧ db = 5 ∨ nb = 5 ∧ db = 43) (h : mi 1 8 = 0) : Ret m_w_haveSuspects [vR 10 0 1] (some (vI (nI 0))) c (MRc nb db by_ rs) mi ml (u2 mi 1 9 (nI 1)) ml :=
  g_w_haveSuspects_0 hb ⟨fun _ => ⟨rfl, rfl, rfl⟩, fun g => absurd h g⟩
theorem R_hsf (hb : nb = 43 ∧ db = 5 ∨ nb = 5 ∧ db = 43) (hW : WF σ) (h8 : ¬ mi 1 8 = 0) (h3 : mi 11 3 = zI (σ 0 12)) (hB : RCb σ nb mi) (h : ¬ HS σ) : Ret m_w_haveSuspects [vR 10 0 1] (some (vI (nI 0))) c (MRc nb db by_ rs) mi ml (u2 mi 1 9 (nI 5)) ml := by
  have hl := los_le (σ := σ)
  refine g_w_haveSuspects_0 hb ⟨fun g => absurd g h8, fun _ => ⟨fun _ => ⟨rfl, (u2_u2 _ _ _ _ _).symm, rfl⟩, fun g => ⟨_, R_lostCount (hbb_of hb) hW (hB.w (hbb_of hb) _), fun _ => ⟨rfl, (u2_u2 _ _ _ _ _).symm, rfl⟩, fun g2 => ?_⟩⟩⟩
  have := nI_ne0' (by omega) g2
  by_cases h1 : σ 0 12 = 1
  · exact absurd ⟨h1, this⟩ h
  · exact absurd (sc0 hW h3 h1) g
theorem R_hst (hb : nb = 43 ∧ db = 5 ∨ nb = 5 ∧ db = 43) (hW : WF σ) (h8 : ¬ mi 1 8 = 0) (h3 : mi 11 3 = zI (σ 0 12)) (hB : RCb σ nb mi) (h : HS σ) : Ret m_w_haveSuspects [vR 10 0 1] (some (vI (nI 1))) c (MRc nb db by_ rs) mi ml (u2 mi 1 9 (nI 0)) ml := by
  refine g_w_haveSuspects_0 hb ⟨fun g => absurd g h8, fun _ => ⟨fun g => absurd g (sc1 h3 h.1), fun g => ⟨_, R_lostCount (hbb_of hb) hW (hB.w (hbb_of hb) _), fun g2 => absurd ?_ g2, fun g2 => ⟨rfl, (u2_u2 _ _ _ _ _).symm, rfl⟩⟩⟩⟩
  rw [h.2]; rfl
theorem R_rsn {x : Int32} (h : x = 0) : Ret m_r_refusesSuspects [vR 19 0 48, vI x] (some (vI (nI 1))) c (MRc nb db by_ rs) mj mk mj mk :=
  g_r_refusesSuspects_0 ⟨fun g => absurd h g, fun _ => ⟨rfl, rfl, rfl⟩⟩
theorem R_rsf {x : Int32} (hW : WF σ) (hs : RMs σ mj) (hx : ¬ x = 0) (h : ¬ HS σ) : Ret m_r_refusesSuspects [vR 19 0 48, vI x] (some (vI (nI 5))) c (MRc nb db by_ rs) mj mk mj mk := by
  refine g_r_refusesSuspects_0 ⟨fun _ => ⟨fun _ => ⟨rfl, rfl, rfl⟩, fun g => ⟨fun _ => ⟨rfl, rfl, rfl⟩, fun g2 => ?_⟩⟩, fun g => absurd g hx⟩
  rw [RMs.lob hW hs] at g2
  have hlo := lo_lt hW
  have := nI_ne0' (by omega) g2
  by_cases h1 : σ 0 12 = 1
  · exact absurd ⟨h1, (los_0 hW).mpr this⟩ h
  · exact absurd (sc0 hW hs.sc h1) g
theorem R_rst {x : Int32} (hW : WF σ) (hs : RMs σ mj) (hx : ¬ x = 0) (h : HS σ) : Ret m_r_refusesSuspects [vR 19 0 48, vI x] (some (vI (nI 0))) c (MRc nb db by_ rs) mj mk mj mk := by
  refine g_r_refusesSuspects_0 ⟨fun _ => ⟨fun g => absurd g (sc1 hs.sc h.1), fun g => ⟨fun g2 => absurd ?_ g2, fun g2 => ⟨rfl, rfl, rfl⟩⟩⟩, fun g => absurd g hx⟩
  rw [RMs.lob hW hs, (los_0 hW).mp h.2]; rfl
theorem SU.of (hb : nb = 43 ∧ db = 5 ∨ nb = 5 ∧ db = 43) (I : IC σ nb mi) (hr : σ 0 0 = 1) (N : RCn σ mi ml) (L : RCl σ mi) (w : WL σ) (h : HS σ) : SU σ nb (u2 mi 1 9 (nI 0)) ml :=
  ⟨I.1, hr, (I.2.2 hr).w (hbb_of hb) _, ((N h.1).2.2 (by have := h.2; omega)).2, I.2.1.2.2.2.2.2.2.2.2.1, L, w⟩
theorem SR.of (J : IR σ mj) (hr : σ 0 0 = 1) (R : RMn σ mj) (L : RMl σ mj) (w : WL σ) (h : HS σ) : SR σ (u2 mj 48 0 (nI 0)) :=
  ⟨RK.of J hr R h.1, h.2, J.2.1.2.2.2.2.2.2.2.2.1, L, w⟩
theorem FCw.of18 {m' : MI} (h : F18 (u2 mi 1 9 (nI 0)) m') (w : Nat) : FCw mi (u2 m' 1 9 (nI w)) w := by
  refine ⟨u2_s _ _ _ _, fun k hk => ?_, fun a h1 h18 => ?_⟩
  · rw [u2_ne2 _ _ (Or.inr hk), h 1 (by decide), u2_ne2 _ _ (Or.inr hk)]
  · rw [u2_o _ _ h1, h a h18, u2_o _ _ h1]
theorem FCw.of180 {m' : MI} (h : F18 (u2 mi 1 9 (nI 0)) m') : FCw mi m' 0 := by
  refine ⟨?_, fun k hk => ?_, fun a h1 h18 => ?_⟩
  · rw [h 1 (by decide), u2_s]
  · rw [h 1 (by decide), u2_ne2 _ _ (Or.inr hk)]
  · rw [h a h18, u2_o _ _ h1]
theorem FLw.of61 {m' : ML} (h : F61 mk m') : FLw mk m' := fun a ha => h a (by omega)
theorem A_suspects (hb : nb = 43 ∧ db = 5 ∨ nb = 5 ∧ db = 43) (I : IC σ nb mi) (N : RCn σ mi ml) (L : RCl σ mi) (w : WL σ) (J : IR σ mj) (R : RMn σ mj) (M : RMl σ mj) : Agr m_w_suspects m_r_suspects [] nb db by_ rs mi ml mj mk := by
  have hW := I.1
  have hs := J.2.1
  by_cases hr : σ 0 0 = 1
  · have hB1 := I.2.2 hr
    by_cases h2 : HS σ
    · obtain ⟨n, hn, h31⟩ := wf_n hW
      have SC := SU.of hb I hr N L w h2
      have SM := SR.of J hr R M w h2
      intro c
      obtain ⟨m1, a1, a2⟩ := R_count (nb := nb) (db := db) (by_ := by_) (rs := rs) (c := c) (hbb_of hb) SC hn
      obtain ⟨k1, b1, b2⟩ := R_countR (nb := nb) (db := db) (by_ := by_) (rs := rs) (c := c) (mk := mk) SM hn
      exact ⟨vI (nI (cS σ (2 * n + 1))), 0, m1, T3 mj 0, k1, by decide, by decide, g_w_suspects_0 hb ⟨_, _, _, R_hst hb hW (rd1 I.2.1 hr) I.sc hB1 h2, fun g => absurd g n10, fun _ => ⟨_, _, _, a2, rfl, rfl, rfl⟩⟩, g_r_suspects_0 ⟨_, R_rst hW (RMs_th hs _) (rf1 hs hr) h2, fun _ => b2, fun g => absurd p00 g⟩, FCw.of180 a1, FRw.one _ _, FLw.of61 b1, rfl⟩
    · exact Agr.mk (vI (-(nI 1))) 5 (by decide) (fun c => g_w_suspects_0 hb ⟨_, _, _, R_hsf hb hW (rd1 I.2.1 hr) I.sc hB1 h2, fun _ => ⟨rfl, rfl, rfl⟩, fun g => absurd rfl g⟩) (fun c => g_r_suspects_0 ⟨_, R_rsf hW (RMs_th hs _) (rf1 hs hr) h2, fun g => absurd g p50, fun _ => ⟨rfl, rfl, rfl⟩⟩)
  · exact Agr.mk (vI (-(nI 1))) 1 (by decide) (fun c => g_w_suspects_0 hb ⟨_, _, _, R_hsn hb (rd0 I.2.1 hr hW), fun _ => ⟨rfl, rfl, rfl⟩, fun g => absurd rfl g⟩) (fun c => g_r_suspects_0 ⟨_, R_rsn (rf0 hs hr hW), fun g => absurd g p10, fun _ => ⟨rfl, rfl, rfl⟩⟩)
theorem nth_I (a : Int32) : ∃ I : Nat, (∀ m : Nat, m ≤ 63 → (nI m = a ↔ m = I)) ∧ (a < 0 → 63 < I) := by
  by_cases h : a < 0
  · refine ⟨1000, fun m hm => ⟨fun z => ?_, fun z => by omega⟩, fun _ => by decide⟩
    rw [← z] at h
    exact absurd h (nI_pos (by omega))
  · obtain ⟨k, hk, rfl⟩ := nI_of h
    exact ⟨k, fun m hm => nI_eq (by omega) hk, fun z => absurd z h⟩
theorem cS_uniq : ∀ q q' : Nat, SP σ q → SP σ q' → cS σ q = cS σ q' → q = q' := by
  have mono : ∀ d q, cS σ q ≤ cS σ (q + d) := by
    intro d
    induction d with
    | zero => intro q; exact Nat.le_refl _
    | succ d ih =>
      intro q
      have := ih q
      by_cases h : SP σ (q + d)
      · rw [show q + (d + 1) = (q + d) + 1 by omega, cS_t h]; omega
      · rw [show q + (d + 1) = (q + d) + 1 by omega, cS_f h]; exact this
  have lt : ∀ q q', SP σ q → q < q' → cS σ q < cS σ q' := by
    intro q q' h hq
    have := mono (q' - (q + 1)) (q + 1)
    rw [cS_t h, show q + 1 + (q' - (q + 1)) = q' by omega] at this
    omega
  intro q q' h h' e
  rcases Nat.lt_trichotomy q q' with z | z | z
  · have := lt q q' h z; omega
  · exact z
  · have := lt q' q h' z; omega
theorem zpos {q : Nat} (h : q < 2 ^ 31) : ¬ nI q = -(nI 1) := by
  rw [show -(nI 1) = zI (-1) from rfl, nI_z, zI_eq ⟨by omega, by omega⟩ (by decide)]; omega
theorem A_suspect {i : Int32} (hb : nb = 43 ∧ db = 5 ∨ nb = 5 ∧ db = 43) (I : IC σ nb mi) (N : RCn σ mi ml) (L : RCl σ mi) (w : WL σ) (J : IR σ mj) (R : RMn σ mj) (M : RMl σ mj) : Agr m_w_suspect m_r_suspect [vI i] nb db by_ rs mi ml mj mk := by
  have hW := I.1
  have hs := J.2.1
  by_cases hr : σ 0 0 = 1
  · have hB1 := I.2.2 hr
    by_cases h2 : HS σ
    · obtain ⟨n, hn, h31⟩ := wf_n hW
      have SC := SU.of hb I hr N L w h2
      have SM := SR.of J hr R M w h2
      obtain ⟨IN, hI, hneg⟩ := nth_I i
      have nn : -(nI 1) < (0 : Int32) := by decide
      intro c
      rcases R_numC (nb := nb) (db := db) (by_ := by_) (rs := rs) (c := c) (hbb_of hb) SC hn hI with ⟨q, m1, q1, q2, q3, q4, q5, -⟩ | ⟨q1, m1, q4, q5⟩
      · have hi0 : (0 : Int32) ≤ i := i32_nlt.mp (fun z => by have := hneg z; have := cS_le σ q; omega)
        rcases R_numR (nb := nb) (db := db) (by_ := by_) (rs := rs) (c := c) (mk := mk) SM hn hI with ⟨q', k1, r1, r2, r3, r4, r5, -⟩ | ⟨r1, -⟩
        · have e := cS_uniq q q' q2 r2 (by rw [q3, r3])
          subst e
          exact ⟨vI (nI q), 0, _, T3 mj 0, k1, by decide, by decide, g_w_suspect_0 hb ⟨_, _, _, R_hst hb hW (rd1 I.2.1 hr) I.sc hB1 h2, fun _ => ⟨_, _, _, q5, fun g => absurd g (nI_pos (by omega)), fun _ => ⟨rfl, rfl, rfl⟩⟩, fun g => absurd g n10⟩, g_r_suspect_0 ⟨_, R_rst hW (RMs_th hs _) (rf1 hs hr) h2, fun _ => ⟨fun _ => ⟨_, _, _, r5, fun _ => ⟨rfl, rfl, rfl⟩, fun g => absurd g (zpos (by omega))⟩, fun g => absurd hi0 g⟩, fun g => absurd p00 g⟩, FCw.of18 q4 0, FRw.one _ _, FLw.of61 r4, rfl⟩
        · exact absurd q3 (r1 q q1 q2)
      · by_cases hi0 : (0 : Int32) ≤ i
        · rcases R_numR (nb := nb) (db := db) (by_ := by_) (rs := rs) (c := c) (mk := mk) SM hn hI with ⟨q', k1, r1, r2, r3, -⟩ | ⟨-, k1, r4, r5⟩
          · exact absurd r3 (q1 q' r1 r2)
          · exact ⟨vI (-(nI 1)), 1, _, T3 mj 1, k1, by decide, by decide, g_w_suspect_0 hb ⟨_, _, _, R_hst hb hW (rd1 I.2.1 hr) I.sc hB1 h2, fun _ => ⟨_, _, _, q5, fun _ => ⟨rfl, rfl, rfl⟩, fun g => absurd nn g⟩, fun g => absurd g n10⟩, g_r_suspect_0 ⟨_, R_rst hW (RMs_th hs _) (rf1 hs hr) h2, fun _ => ⟨fun _ => ⟨_, _, _, r5, fun g => absurd rfl g, fun _ => ⟨rfl, rfl, rfl⟩⟩, fun g => absurd hi0 g⟩, fun g => absurd p00 g⟩, FCw.of18 q4 1, FRw.one _ _, FLw.of61 r4, rfl⟩
        · exact ⟨vI (-(nI 1)), 1, _, T3 mj 1, mk, by decide, by decide, g_w_suspect_0 hb ⟨_, _, _, R_hst hb hW (rd1 I.2.1 hr) I.sc hB1 h2, fun _ => ⟨_, _, _, q5, fun _ => ⟨rfl, rfl, rfl⟩, fun g => absurd nn g⟩, fun g => absurd g n10⟩, g_r_suspect_0 ⟨_, R_rst hW (RMs_th hs _) (rf1 hs hr) h2, fun _ => ⟨fun g => absurd g hi0, fun _ => ⟨rfl, rfl, rfl⟩⟩, fun g => absurd p00 g⟩, FCw.of18 q4 1, FRw.one _ _, fun _ _ => rfl, rfl⟩
    · exact Agr.mk (vI (-(nI 1))) 5 (by decide) (fun c => g_w_suspect_0 hb ⟨_, _, _, R_hsf hb hW (rd1 I.2.1 hr) I.sc hB1 h2, fun g => absurd rfl g, fun _ => ⟨rfl, rfl, rfl⟩⟩) (fun c => g_r_suspect_0 ⟨_, R_rsf hW (RMs_th hs _) (rf1 hs hr) h2, fun g => absurd g p50, fun _ => ⟨rfl, rfl, rfl⟩⟩)
  · exact Agr.mk (vI (-(nI 1))) 1 (by decide) (fun c => g_w_suspect_0 hb ⟨_, _, _, R_hsn hb (rd0 I.2.1 hr hW), fun g => absurd rfl g, fun _ => ⟨rfl, rfl, rfl⟩⟩) (fun c => g_r_suspect_0 ⟨_, R_rsn (rf0 hs hr hW), fun g => absurd g p10, fun _ => ⟨rfl, rfl, rfl⟩⟩)
theorem A_supposed {i : Int32} (hb : nb = 43 ∧ db = 5 ∨ nb = 5 ∧ db = 43) (I : IC σ nb mi) (N : RCn σ mi ml) (L : RCl σ mi) (w : WL σ) (J : IR σ mj) (R : RMn σ mj) (M : RMl σ mj) : Agr m_w_supposed m_r_supposed [vI i, vI j] nb db by_ rs mi ml mj mk := by
  have hW := I.1
  have hs := J.2.1
  by_cases h : InK σ 5 j
  · have hr := h.1
    have hB1 := (I.2.2 hr).w (hbb_of hb) (nI 0)
    have h8 : ¬ (u2 mi 1 9 (nI 0)) 1 8 = 0 := rd1 (mi := mi) I.2.1 hr
    have h3 : (u2 mi 1 9 (nI 0)) 11 3 = zI (σ 0 12) := IC.sc (mi := mi) I
    obtain ⟨kj, ej, hj⟩ := h.nat
    have hj31 := InK.n31 hW hj
    by_cases h2 : HS σ
    · obtain ⟨n, hn, h31⟩ := wf_n hW
      have SC := SU.of hb I hr N L w h2
      have SM := SR.of J hr R M w h2
      obtain ⟨IN, hI, hneg⟩ := nth_I i
      have nn : -(nI 1) < (0 : Int32) := by decide
      intro c
      have HS1 : Ret m_w_haveSuspects [vR 10 0 1] (some (vI (nI 1))) c (MRc nb db by_ rs) (u2 mi 1 9 (nI 0)) ml (u2 mi 1 9 (nI 0)) ml := by
        have := R_hst (by_ := by_) (rs := rs) (c := c) (ml := ml) hb hW h8 h3 hB1 h2
        rw [u2_u2] at this
        exact this
      rcases R_numC (nb := nb) (db := db) (by_ := by_) (rs := rs) (c := c) (hbb_of hb) SC hn hI with ⟨q, m1, q1, q2, q3, q4, q5, q6⟩ | ⟨q1, m1, q4, q5⟩
      · have hi0 : ¬ i < 0 := fun z => by have := hneg z; have := cS_le σ q; omega
        rcases R_numR (nb := nb) (db := db) (by_ := by_) (rs := rs) (c := c) (mk := mk) SM hn hI with ⟨q', k1, r1, r2, r3, r4, r5, r6⟩ | ⟨r1, -⟩
        · have e := cS_uniq q q' q2 r2 (by rw [q3, r3])
          subst e
          refine ⟨vI (zI (xQ σ q kj)), 0, _, T3 mj 0, k1, by decide, by decide, g_w_supposed_0 hb ⟨_, _, _, R_one_t hb I h, fun g => absurd g n10, fun _ => ⟨_, _, _, HS1, fun _ => ⟨_, _, _, q5, fun g => absurd g (nI_pos (by omega)), fun _ => ⟨ixn ej (by omega) (by decide), ?_, rfl, rfl⟩⟩, fun g => absurd g n10⟩⟩, g_r_supposed_0 ⟨_, R_is_t hW (RMs_th hs _) h, _, R_rst hW (RMs_th hs _) n10 h2, fun _ => ⟨fun g => absurd g hi0, fun _ => ⟨_, _, _, r5, fun _ => ⟨ixn ej (by omega) (by decide), ?_, rfl, rfl⟩, fun g => absurd g (zpos (by omega))⟩⟩, fun g => absurd p00 g⟩, FCw.of18 q4 0, FRw.one _ _, FLw.of61 r4, rfl⟩
          · rw [cln ej (by omega), q6 kj hj]
          · rw [cln ej (by omega), r6 kj hj, zL_i]
        · exact absurd q3 (r1 q q1 q2)
      · by_cases hi0 : i < 0
        · exact ⟨vI (-(nI 1)), 1, _, T3 mj 1, mk, by decide, by decide, g_w_supposed_0 hb ⟨_, _, _, R_one_t hb I h, fun g => absurd g n10, fun _ => ⟨_, _, _, HS1, fun _ => ⟨_, _, _, q5, fun _ => ⟨rfl, rfl, rfl⟩, fun g => absurd nn g⟩, fun g => absurd g n10⟩⟩, g_r_supposed_0 ⟨_, R_is_t hW (RMs_th hs _) h, _, R_rst hW (RMs_th hs _) n10 h2, fun _ => ⟨fun _ => ⟨rfl, rfl, rfl⟩, fun g => absurd hi0 g⟩, fun g => absurd p00 g⟩, FCw.of18 q4 1, FRw.one _ _, fun _ _ => rfl, rfl⟩
        · rcases R_numR (nb := nb) (db := db) (by_ := by_) (rs := rs) (c := c) (mk := mk) SM hn hI with ⟨q', k1, r1, r2, r3, -⟩ | ⟨-, k1, r4, r5⟩
          · exact absurd r3 (q1 q' r1 r2)
          · exact ⟨vI (-(nI 1)), 1, _, T3 mj 1, k1, by decide, by decide, g_w_supposed_0 hb ⟨_, _, _, R_one_t hb I h, fun g => absurd g n10, fun _ => ⟨_, _, _, HS1, fun _ => ⟨_, _, _, q5, fun _ => ⟨rfl, rfl, rfl⟩, fun g => absurd nn g⟩, fun g => absurd g n10⟩⟩, g_r_supposed_0 ⟨_, R_is_t hW (RMs_th hs _) h, _, R_rst hW (RMs_th hs _) n10 h2, fun _ => ⟨fun g => absurd g hi0, fun _ => ⟨_, _, _, r5, fun g => absurd rfl g, fun _ => ⟨rfl, rfl, rfl⟩⟩⟩, fun g => absurd p00 g⟩, FCw.of18 q4 1, FRw.one _ _, FLw.of61 r4, rfl⟩
    · refine Agr.mk (vI (-(nI 1))) 5 (by decide) (fun c => g_w_supposed_0 hb ⟨_, _, _, R_one_t hb I h, fun g => absurd g n10, fun _ => ⟨_, _, _, R_hsf hb hW h8 h3 hB1 h2, fun g => absurd rfl g, fun _ => ⟨rfl, (u2_u2 _ _ _ _ _).symm, rfl⟩⟩⟩) (fun c => g_r_supposed_0 ⟨_, R_is_t hW (RMs_th hs _) h, _, R_rsf hW (RMs_th hs _) n10 h2, fun g => absurd g p50, fun _ => ⟨rfl, rfl, rfl⟩⟩)
  · exact Agr.mk (vI (-(nI 1))) 1 (by decide) (fun c => g_w_supposed_0 hb ⟨_, _, _, R_one_f hb I h, fun _ => ⟨rfl, rfl, rfl⟩, fun g => absurd rfl g⟩) (fun c => g_r_supposed_0 ⟨_, R_is_f hW (RMs_th hs _) h, _, R_rsn rfl, fun g => absurd g p10, fun _ => ⟨rfl, rfl, rfl⟩⟩)
end
