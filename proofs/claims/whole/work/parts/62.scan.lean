/-! ===== scan: the next state; the call ===== -/
def scS (σ : SG) (w s q d : Int) : SG := fun a => if a = 0 then (fun k => if k = 1 then w else if k = 12 then s else if k = 13 then σ 0 13 + q else if k = 14 then σ 0 14 + d else σ 0 k) else σ a
theorem scS_0 (σ : SG) (w s q d : Int) {k : Nat} (h1 : k ≠ 1) (h2 : k ≠ 12) (h3 : k ≠ 13) (h4 : k ≠ 14) : scS σ w s q d 0 k = σ 0 k := by unfold scS; simp [h1, h2, h3, h4]
theorem scS_o (σ : SG) (w s q d : Int) {a : Nat} (h : a ≠ 0) : scS σ w s q d a = σ a := by unfold scS; rw [if_neg h]
theorem scS_s (σ : SG) (w s q d : Int) : SGs (u2 σ 0 12 s) (scS σ w s q d) := ⟨fun a ha => by rw [scS_o _ _ _ _ _ (by omega), u2_o _ _ (by omega)], fun k hk => by
  by_cases e : k = 12
  · subst e; rw [u2_s]; rfl
  · rw [scS_0 σ w s q d (by omega) e (by omega) (by omega), u2_ne2 _ _ (Or.inr e)]⟩
theorem lkN_le (σ : SG) : ∀ d j, lkN σ d j ≤ d
  | 0, _ => Nat.le_refl 0
  | d + 1, j => by
    have h := lkN_le σ d (j + 1)
    show (if bt (loB σ) j = 1 then lkN σ d (j + 1) else if σ 0 8 < rdS σ (plS σ j) then 1 else lkN σ d (j + 1) + 1) ≤ d + 1
    split
    · omega
    · split <;> omega
section
variable {nb db b : Nat} {by_ rs : RX} {c : Nat} {σ τ : SG} {mi mi' mj mj' : MI} {ml ml' mk : ML}
theorem WF.scn (h : WF σ) (hr : σ 0 0 = 1) {w s q d : Int} (hw : 0 ≤ w ∧ w ≤ 5) (hs : s = 0 ∨ s = 1) : WF (scS σ w s q d) :=
  h.next hr (fun k a _ _ b _ c d' => scS_0 σ w s q d a b c d') hw h.lost h.lg hs h.ac (fun k => h.lights k) (fun k => h.shut k) rfl rfl rfl
theorem FC.scn (hbb : nb = 43 ∨ nb = 5) (h : FC σ nb mi ml) (hr : σ 0 0 = 1) {w s q d : Int} (hw : 0 ≤ w ∧ w ≤ 5) (w4 : w ≠ 4) (hs : s = 0 ∨ s = 1) (hN : RCn (scS σ w s q d) mi' ml') (m1k : ∀ k, k ≠ 9 → mi' 1 k = mi 1 k) (m19 : mi' 1 9 = zI w) (m0 : mi' 11 0 = zI (σ 0 13 + q)) (m1 : mi' 11 1 = zI (σ 0 14 + d)) (m2 : mi' 11 2 = mi 11 2) (m3 : mi' 11 3 = zI s) (g : ∀ a, a ≠ 1 → a ≠ 11 → a ≠ 14 → a ≠ 15 → mi' a = mi a) : FC (scS σ w s q d) nb mi' ml' := by
  obtain ⟨⟨hW, ⟨a1, a2, a3, a4, a5, a6, a7, a8, a9, a10, a11⟩, hB⟩, hL, hl, -, hA, hR⟩ := h
  refine ⟨⟨hW.scn hr hw hs, ⟨?_, m19, ?_, fun e => absurd e w4, ?_, fun k hk => ?_, m0, m1, ?_, m3, ?_⟩, fun _ => ?_⟩, fun i hi => hL i hi, fun i hi => ?_, hN, fun i hi => hA i hi, fun i hi => ?_⟩
  · rw [m1k 8 (by decide), a1]; rfl
  · rw [m1k 10 (by decide), a3]; rfl
  · rw [g 2 (by decide) (by decide) (by decide) (by decide), a5]; rfl
  · rw [g 3 (by decide) (by decide) (by decide) (by decide)]; exact a6 k hk
  · rw [m2, a9]; rfl
  · rw [g 39 (by decide) (by decide) (by decide) (by decide), a11]; rfl
  · have hB' : RCb σ nb mi' := (hB hr).fr hbb (fun q hq => g q (by omega) (by omega) (by omega) (by omega))
    exact (scS_s σ w s q d).e_RCb (show RCb (u2 σ 0 12 s) nb mi' from hB')
  · rw [g 12 (by decide) (by decide) (by decide) (by decide), g 13 (by decide) (by decide) (by decide) (by decide)]; exact hl i hi
  · rw [g 40 (by decide) (by decide) (by decide) (by decide), g 41 (by decide) (by decide) (by decide) (by decide), g 42 (by decide) (by decide) (by decide) (by decide)]; exact hR i hi
theorem FR.scn (h : FR σ mj) (hr : σ 0 0 = 1) {w s q d : Int} (hw : 0 ≤ w ∧ w ≤ 5) (w4 : w ≠ 4) (hs : s = 0 ∨ s = 1) (hN : RMn (scS σ w s q d) mj') (m1 : mj' 48 1 = zI w) (m2 : mj' 48 2 = -(nI 1)) (m44 : mj' 48 44 = zI (σ 0 13 + q)) (m45 : mj' 48 45 = zI (σ 0 14 + d)) (m46 : mj' 48 46 = zI s) (f3 : ∀ k, k ≠ 0 → k ≠ 1 → k ≠ 2 → k ≠ 44 → k ≠ 45 → k ≠ 46 → mj' 48 k = mj 48 k) (f4 : ∀ a, a ≠ 48 → a ≠ 60 → mj' a = mj a) : FR (scS σ w s q d) mj' := by
  obtain ⟨⟨hW, ⟨a1, a2, a3, a4, a5, a6, a7, a8, a9, a10, a11, a12, a13, a14, a15⟩, hB⟩, hl, -, hP⟩ := h
  have S := scS_s σ w s q d
  refine ⟨⟨hW.scn hr hw hs, ⟨m1, ?_, ?_, ?_, ?_, ?_, ?_, ?_, ?_, m44, m45, m46, fun k hk => ?_, fun e => ?_, ?_⟩, ?_⟩, fun i hi => ?_, hN, ?_⟩
  · rw [if_neg (show ¬ scS σ w s q d 0 1 = 4 from w4), m2]; rfl
  · rw [f3 5 (by decide) (by decide) (by decide) (by decide) (by decide) (by decide), a3]; rfl
  · rw [f3 9 (by decide) (by decide) (by decide) (by decide) (by decide) (by decide), a4]; rfl
  · rw [f3 26 (by decide) (by decide) (by decide) (by decide) (by decide) (by decide), a5]; rfl
  · rw [f3 30 (by decide) (by decide) (by decide) (by decide) (by decide) (by decide), a6]; rfl
  · rw [f3 32 (by decide) (by decide) (by decide) (by decide) (by decide) (by decide), a7]; rfl
  · rw [f3 38 (by decide) (by decide) (by decide) (by decide) (by decide) (by decide), a8]; rfl
  · rw [f3 43 (by decide) (by decide) (by decide) (by decide) (by decide) (by decide), a9]; rfl
  · rw [f4 57 (by decide) (by decide)]; exact a13 k hk
  · obtain ⟨b1, b2, b3⟩ := a14 hr
    exact ⟨by rw [f3 6 (by decide) (by decide) (by decide) (by decide) (by decide) (by decide), b1]; rfl, by rw [f3 7 (by decide) (by decide) (by decide) (by decide) (by decide) (by decide), b2]; rfl, by rw [f3 8 (by decide) (by decide) (by decide) (by decide) (by decide) (by decide), b3]; rfl⟩
  · rw [f4 54 (by decide) (by decide), a15]; rfl
  · have hB' : RMb σ mj' := hB.eq (fun q hq => f4 q (by omega) (by omega))
    exact S.e_RMb (show RMb (u2 σ 0 12 s) mj' from hB')
  · rw [f4 58 (by decide) (by decide), f4 59 (by decide) (by decide)]; exact hl i hi
  · have hpa : ∀ d', pa_ (u2 σ 0 12 s) d' = pa_ σ d' := by
      intro d'
      induction d' with
      | zero => rfl
      | succ d' ih =>
        show und (σ 9 ((σ 0 15).toNat - 1 - d')) (σ 10 ((σ 0 15).toNat - 1 - d')) (σ 11 ((σ 0 15).toNat - 1 - d')) (pa_ (u2 σ 0 12 s) d') = und (σ 9 ((σ 0 15).toNat - 1 - d')) (σ 10 ((σ 0 15).toNat - 1 - d')) (σ 11 ((σ 0 15).toNat - 1 - d')) (pa_ σ d')
        rw [ih]
    have hP' : RMp (u2 σ 0 12 s) mj := fun d' d0 hd k hk hrel => by
      rw [hpa d']; exact hP d' d0 hd k hk hrel
    exact S.e_RMp rfl rfl rfl rfl hP' (f4 56 (by decide) (by decide))
theorem V_scan0 (hb : nb = 43 ∧ db = 5 ∨ nb = 5 ∧ db = 43) (F : FC σ nb mi ml) (R : FR σ mj) (hr : ¬ σ 0 0 = 1) : Adv m_w_scan m_r_scan [] nb db by_ rs σ mi ml mj mk := by
  have z0 : σ 0 0 = 0 := by rcases rd_01 F.1.1 with z | z; exact z; exact absurd z hr
  have e1 : mi 1 8 = 0 := by rw [F.1.2.1.1, z0]; rfl
  have e2 : mj 48 26 = 0 := by rw [R.1.2.1.rd, z0]; rfl
  exact Adv.ofA hb F R (Agr.mk (vI (-(nI 1))) 1 (by decide) (fun c => g_w_scan_0 hb ⟨fun _ => ⟨rfl, rfl, rfl⟩, fun g => absurd e1 g⟩) (fun c => g_r_scan_0 ⟨fun g => absurd e2 g, fun _ => ⟨rfl, rfl, rfl⟩⟩))
theorem RCn.no {σ : SG} {mi : MI} {ml : ML} (h : σ 0 12 = 0) : RCn σ mi ml := fun g => by omega
theorem RMn.no {σ : SG} {mj : MI} (h : σ 0 12 = 0) : RMn σ mj := fun g => by omega
theorem V_scan (hb : nb = 43 ∧ db = 5 ∨ nb = 5 ∧ db = 43) (F : FC σ nb mi ml) (R : FR σ mj) : Adv m_w_scan m_r_scan [] nb db by_ rs σ mi ml mj mk := by
  by_cases hr : σ 0 0 = 1
  · have I := F.1
    have J := R.1
    have hW := I.1
    have hs := J.2.1
    have hbb := hbb_of hb
    obtain ⟨n, hn, h31⟩ := wf_n hW
    have e1 : ¬ mi 1 8 = 0 := by rw [I.2.1.1, hr]; decide
    have e2 : ¬ mj 48 26 = 0 := by rw [hs.rd, hr]; decide
    have h0 : mi 11 0 = zI (σ 0 13) := I.2.1.2.2.2.2.2.2.1
    have h1 : mi 11 1 = zI (σ 0 14) := I.2.1.2.2.2.2.2.2.2.1
    have hlob : mj 54 62 = nI (loB σ) := RMs.lob hW hs
    have k44 : mj 48 44 = zI (σ 0 13) := hs.2.2.2.2.2.2.2.2.2.1
    have k45 : mj 48 45 = zI (σ 0 14) := hs.2.2.2.2.2.2.2.2.2.2.1
    have hB0 : RCb σ nb (u2 (u2 mi 1 9 (nI 0)) 11 3 (nI 0)) := ((I.2.2 hr).w hbb (nI 0)).a11 hbb
    have hx : RMx σ (u2 (u2 mj 48 0 (nI 0)) 48 46 (nI 0)) := ⟨hs.2.2.1, (hs.dtk hr).2.1, (hs.dtk hr).2.2⟩
    have hMb : RMb σ (u2 (u2 mj 48 0 (nI 0)) 48 46 (nI 0)) := J.2.2.eq (fun a ha => by rw [u2_o _ _ (by omega), u2_o _ _ (by omega)])
    intro c
    obtain ⟨M, p1, p2, p3, p4, p5⟩ := SC_loop (nb := nb) (db := db) (by_ := by_) (rs := rs) (c := c) (ml := ml) hbb hW hB0 hn 0 (by omega) (nI 0) (nI 0) 0 (σ 0 13) (σ 0 14) (u2 (u2 mi 1 9 (nI 0)) 11 3 (nI 0)) rfl rfl h0 h1 (fun _ _ _ => rfl)
    obtain ⟨N, q1, q2, q3, q4⟩ := SR_loop (nb := nb) (db := db) (by_ := by_) (rs := rs) (c := c) (mk := mk) hW hx hlob hMb hn 0 (by omega) (nI 0) (nI 0) 0 (σ 0 13) (σ 0 14) (u2 (u2 mj 48 0 (nI 0)) 48 46 (nI 0)) rfl rfl k44 k45 (fun _ _ _ => rfl) (fun _ _ _ => rfl)
    have M0 : ∀ a, a ≠ 1 → a ≠ 11 → a ≠ 14 → M a = mi a := fun a a1 a2 a3 => by rw [p1 a a2 a3, u2_o _ _ a2, u2_o _ _ a1]
    have N0 : ∀ a, a ≠ 48 → a ≠ 60 → N a = mj a := fun a a1 a2 => by rw [q1 a a1 a2, u2_o _ _ a1, u2_o _ _ a1]
    by_cases hbd : bdB σ (n - 0) 0 = true
    · obtain ⟨p6, p7⟩ := p4 hbd
      obtain ⟨q5, q6, q7, q8, q9⟩ := q3 hbd
      have w1 : (0 : Int) ≤ 5 ∧ (5 : Int) ≤ 5 := by decide
      have w4 : (5 : Int) ≠ 4 := by decide
      refine ⟨vI (-(nI 1)), scS σ 5 0 (lkN σ (n - 0) 0 : Nat) 1, _, ml, N, mk, g_w_scan_0 hb ⟨fun g => absurd g e1, fun _ => ⟨_, _, _, g_sg_scanAll_0 hbb p7, fun _ => ⟨rfl, rfl, rfl⟩, fun g => absurd (by decide) g⟩⟩, g_r_scan_0 ⟨fun _ => q9, fun g => absurd g e2⟩, ?_, ?_, ⟨rfl, rfl, rfl, rfl, rfl⟩, fun a a1 a2 => ?_, fun a a1 => ?_, fun _ _ => rfl, fun a a1 => N0 a (by omega) (by omega), fun _ _ => rfl, rfl⟩
      · refine FC.scn hbb F hr w1 w4 (Or.inl rfl) (RCn.no rfl) (fun k hk => ?_) (u2_s _ _ _ _) ?_ ?_ ?_ ?_ (fun a a1 a2 a3 a4 => ?_)
        · rw [u2_ne2 _ _ (Or.inr hk), p1 1 (by decide) (by decide), u2_o _ _ (by decide), u2_ne2 _ _ (Or.inr hk)]
        · rw [u2_o _ _ (by decide)]; exact p2
        · rw [u2_o _ _ (by decide)]; exact p6
        · rw [u2_o _ _ (by decide), p3 2 (by decide)]; rfl
        · rw [u2_o _ _ (by decide), p3 3 (by decide)]; rfl
        · rw [u2_o _ _ a1]; exact M0 a a1 a2 a3
      · refine FR.scn R hr w1 w4 (Or.inl rfl) (RMn.no rfl) q6 q7 q2 q5 ?_ (fun k a0 a1 a2 a3 a4 a5 => ?_) N0
        · rw [q8 46 (by decide) (by decide) (by decide) (by decide)]; rfl
        · rw [q8 k a3 a4 a1 a2, u2_ne2 _ _ (Or.inr a5), u2_ne2 _ _ (Or.inr a0)]
      · rw [u2_o _ _ (by omega)]; exact M0 a (by omega) (by omega) (by omega)
      · rw [u2_o _ _ (by omega)]; exact M0 a (by omega) (by omega) (by omega)
    · have hbf : bdB σ (n - 0) 0 = false := by cases h : bdB σ (n - 0) 0; rfl; exact absurd h hbd
      obtain ⟨p6, p7, p8, p9⟩ := p5 hbf
      obtain ⟨q5, q6, q7, q8, q9, q10, q11, q12⟩ := q4 hbf
      have hlk := lkN_le σ (n - 0) 0
      have w1 : (0 : Int) ≤ 0 ∧ (0 : Int) ≤ 5 := by decide
      have w4 : (0 : Int) ≠ 4 := by decide
      have hB1 : RCb σ nb (u2 M 11 3 (nI 1)) := hB0.fr hbb (fun a ha => by rw [u2_o _ _ (by omega), p1 a (by omega) (by omega)])
      obtain ⟨M2, r1, r2, r3⟩ := R_findNets (nb := nb) (db := db) (by_ := by_) (rs := rs) (c := c) (ml := ml) hbb hW hB1 (fun k hk hl => p8 k (by omega) (by omega) hl)
      have hB2 : RCb σ nb M2 := hB1.fr hbb (fun a ha => r2 a (by omega))
      obtain ⟨L2, s1, s2, s3⟩ := R_findBacks (nb := nb) (db := db) (by_ := by_) (rs := rs) (c := c) (ml := u2 ml 11 4 (zL (netA σ))) hbb hW hB2 r3 (u2_s _ _ _ _)
      have en : M nb 0 = nI n := by
        have := hB0.n hn
        rw [← this, p1 nb (by omega) (by omega)]
      have G := p9 (some (vI (zI (0 + (lkN σ (n - 0) 0 : Nat))))) M2 L2 (g_sg_scanAll_9 hbb ⟨fun _ => ⟨_, _, r1, _, _, s1, rfl, rfl, rfl⟩, fun g => absurd (by rw [en]; exact Int32.le_refl _) g⟩)
      have hneg : ¬ zI (0 + (lkN σ (n - 0) 0 : Nat)) < 0 := by
        rw [Int.zero_add]
        exact fun g => absurd ((nI_ltI (by omega) (by decide)).mp (show nI (lkN σ (n - 0) 0) < nI 0 from g)) (by omega)
      have S := scS_s σ 0 1 (lkN σ (n - 0) 0 : Nat) 0
      have er : ∀ i, rdg (scS σ 0 1 (lkN σ (n - 0) 0 : Nat) 0) i = rdg σ i := fun i => (S.e_rdg i).trans rfl
      have ez : ∀ i, netZ (scS σ 0 1 (lkN σ (n - 0) 0 : Nat) 0) i = netZ σ i := fun i => (S.e_netZ i).trans rfl
      have eb : ∀ i, backZ (scS σ 0 1 (lkN σ (n - 0) 0 : Nat) 0) i = backZ σ i := fun i => (S.e_backZ i).trans rfl
      have ea : netA (scS σ 0 1 (lkN σ (n - 0) 0 : Nat) 0) = netA σ := S.e_netA.trans rfl
      have el : loB (scS σ 0 1 (lkN σ (n - 0) 0 : Nat) 0) = loB σ := rfl
      have eo : los (scS σ 0 1 (lkN σ (n - 0) 0 : Nat) 0) = los σ := rfl
      have g2 : ∀ a, a ≠ 1 → a ≠ 11 → a ≠ 14 → a ≠ 15 → u2 M2 1 9 (nI 0) a = mi a := fun a a1 a2 a3 a4 => by
        rw [u2_o _ _ a1, r2 a a4, u2_o _ _ a2]; exact M0 a a1 a2 a3
      refine ⟨vI (zI (0 + (lkN σ (n - 0) 0 : Nat))), scS σ 0 1 (lkN σ (n - 0) 0 : Nat) 0, _, L2, N, mk, g_w_scan_0 hb ⟨fun g => absurd g e1, fun _ => ⟨_, _, _, g_sg_scanAll_0 hbb G, fun g => absurd g hneg, fun _ => ⟨rfl, rfl, rfl⟩⟩⟩, g_r_scan_0 ⟨fun _ => q12, fun g => absurd g e2⟩, ?_, ?_, ⟨rfl, rfl, rfl, rfl, rfl⟩, fun a a1 a2 => g2 a (by omega) (by omega) (by omega) (by omega), fun a a1 => g2 a (by omega) (by omega) (by omega) (by omega), fun a a1 => ?_, fun a a1 => N0 a (by omega) (by omega), fun _ _ => rfl, rfl⟩
      · refine FC.scn hbb F hr w1 w4 (Or.inr rfl) (fun _ => ⟨fun k hk hl => ?_, fun k hk hl => ?_, fun hl => ⟨?_, fun k hk => ?_⟩⟩) (fun k hk => ?_) (u2_s _ _ _ _) ?_ ?_ ?_ ?_ g2
        · rw [er k, u2_o _ _ (by decide), r2 14 (by decide), u2_o _ _ (by decide)]
          exact p8 k (by omega) (by have : (k : Int) < σ 0 5 := hk; omega) hl
        · rw [ez k, u2_o _ _ (by decide)]
          exact r3 k hk hl
        · rw [ea, s2 11 (by decide), u2_s]
        · rw [eb k]; exact s3 hl k hk
        · rw [u2_ne2 _ _ (Or.inr hk), r2 1 (by decide), u2_o _ _ (by decide), p1 1 (by decide) (by decide), u2_o _ _ (by decide), u2_ne2 _ _ (Or.inr hk)]
        · rw [u2_o _ _ (by decide), r2 11 (by decide), u2_ne2 _ _ (Or.inr (by decide))]; exact p2
        · rw [u2_o _ _ (by decide), r2 11 (by decide), u2_ne2 _ _ (Or.inr (by decide)), p6, Int.add_zero]
        · rw [u2_o _ _ (by decide), r2 11 (by decide), u2_ne2 _ _ (Or.inr (by decide)), p3 2 (by decide)]; rfl
        · rw [u2_o _ _ (by decide), r2 11 (by decide), u2_s]; rfl
      · refine FR.scn R hr w1 w4 (Or.inr rfl) (fun _ k hk hl => ?_) q6 q7 q2 (by rw [q5, Int.add_zero]) (by rw [q8]; rfl) (fun k a0 a1 a2 a3 a4 a5 => ?_) N0
        · rw [er k]; exact q11 k (by omega) (by have : (k : Int) < σ 0 5 := hk; omega) hl
        · rw [q9 k a3 a4 a1 a2 a5, u2_ne2 _ _ (Or.inr a5), u2_ne2 _ _ (Or.inr a0)]
      · rw [s2 a (by omega), u2_o _ _ (by omega)]
  · exact V_scan0 hb F R hr
end
