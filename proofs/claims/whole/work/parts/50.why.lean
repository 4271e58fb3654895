/-! ===== states that differ in what isn't seen ===== -/
/-- alike in lights, shutters, noises, masks, and the bench's numbers -/
def SGs (σ τ : SG) : Prop := (∀ a, a = 1 ∨ a = 2 ∨ a = 3 ∨ a = 4 → τ a = σ a) ∧ ∀ k, k = 0 ∨ k = 5 ∨ k = 6 ∨ k = 7 ∨ k = 8 ∨ k = 9 ∨ k = 10 ∨ k = 12 → τ 0 k = σ 0 k
section
variable {σ τ : SG}
theorem SGs.r1 (h : SGs σ τ) : τ 1 = σ 1 := h.1 1 (by omega)
theorem SGs.r2 (h : SGs σ τ) : τ 2 = σ 2 := h.1 2 (by omega)
theorem SGs.r3 (h : SGs σ τ) : τ 3 = σ 3 := h.1 3 (by omega)
theorem SGs.r4 (h : SGs σ τ) : τ 4 = σ 4 := h.1 4 (by omega)
theorem SGs.n (h : SGs σ τ) : τ 0 5 = σ 0 5 := h.2 5 (by omega)
theorem SGs.kd (h : SGs σ τ) : τ 0 6 = σ 0 6 := h.2 6 (by omega)
theorem SGs.dk (h : SGs σ τ) : τ 0 7 = σ 0 7 := h.2 7 (by omega)
theorem SGs.tp (h : SGs σ τ) : τ 0 8 = σ 0 8 := h.2 8 (by omega)
theorem SGs.lo (h : SGs σ τ) : τ 0 10 = σ 0 10 := h.2 10 (by omega)
theorem SGs.sc (h : SGs σ τ) : τ 0 12 = σ 0 12 := h.2 12 (by omega)
theorem SGs.e_mon (h : SGs σ τ) : mon τ = mon σ := by unfold mon; rw [h.r1, h.n]
theorem SGs.e_thF (h : SGs σ τ) : thF τ = thF σ := by funext s k; unfold thF; rw [h.r1, h.r2]
theorem SGs.e_thr (h : SGs σ τ) (s : Nat) : thr τ s = thr σ s := by unfold thr; rw [h.e_thF, h.n]
theorem SGs.e_rdS (h : SGs σ τ) (s : Nat) : rdS τ s = rdS σ s := by unfold rdS; rw [h.dk, h.e_thr]
theorem SGs.e_plS (h : SGs σ τ) (i : Nat) : plS τ i = plS σ i := by unfold plS; rw [h.kd, h.n]
theorem SGs.e_loB (h : SGs σ τ) : loB τ = loB σ := by unfold loB; rw [h.lo]
theorem SGs.e_los (h : SGs σ τ) : los τ = los σ := by unfold los; rw [h.e_loB]
theorem SGs.e_rdg (h : SGs σ τ) (i : Nat) : rdg τ i = rdg σ i := by unfold rdg; rw [h.e_plS, h.e_rdS, h.r3]
theorem SGs.e_netF (h : SGs σ τ) : netF τ = netF σ := by funext i; unfold netF; rw [h.e_loB, h.e_rdg, h.dk]
theorem SGs.e_netS (h : SGs σ τ) : netS τ = netS σ := by unfold netS; rw [h.e_netF, h.n]
theorem SGs.e_whl (h : SGs σ τ) : whl τ = whl σ := by unfold whl; rw [h.n, h.e_mon]
theorem SGs.e_netZ (h : SGs σ τ) (i : Nat) : netZ τ i = netZ σ i := by unfold netZ; rw [h.e_loB, h.e_whl, h.e_netS, h.e_rdg, h.dk]
theorem SGs.e_netA (h : SGs σ τ) : netA τ = netA σ := by unfold netA; rw [h.e_los, h.e_whl, h.e_netS]
theorem SGs.e_bkF (h : SGs σ τ) (j : Nat) : bkF τ j = bkF σ j := by funext i; unfold bkF; rw [h.e_plS, h.e_netZ]
theorem SGs.e_backZ (h : SGs σ τ) (j : Nat) : backZ τ j = backZ σ j := by unfold backZ; rw [h.e_bkF, h.n, h.e_netA]
theorem SGs.e_opB (h : SGs σ τ) : opB τ = opB σ := by unfold opB; rw [h.r2, h.n]
theorem SGs.e_shB (h : SGs σ τ) : shB τ = shB σ := by unfold shB; rw [h.r2, h.n]
theorem SGs.e_RCb (h : SGs σ τ) {nb : Nat} {mi : MI} (hB : RCb σ nb mi) : RCb τ nb mi := by
  unfold RCb at hB ⊢
  rw [h.n, h.kd, h.dk, h.tp, h.lo, h.e_opB, h.e_shB, h.r1, h.r3, h.r4, h.2 9 (by omega)]
  exact hB
theorem SGs.e_RMb (h : SGs σ τ) {mj : MI} (hB : RMb σ mj) : RMb τ mj := by
  unfold RMb at hB ⊢
  rw [h.n, h.kd, h.r1, h.r2, h.r3, h.r4, h.2 9 (by omega)]
  exact hB
theorem SGs.e_RCn (h : SGs σ τ) {mi mi' : MI} {ml ml' : ML} (hB : RCn σ mi ml) (m14 : mi' 14 = mi 14) (m15 : mi' 15 = mi 15) (l11 : ml' 11 = ml 11) (l16 : ml' 16 = ml 16) : RCn τ mi' ml' := by
  intro hs
  rw [h.sc] at hs
  obtain ⟨b1, b2, b3⟩ := hB hs
  rw [h.n, h.e_loB, h.e_los, m14, m15, l11, l16, h.e_netA]
  exact ⟨fun k hk hl => by rw [h.e_rdg]; exact b1 k hk hl, fun k hk hl => by rw [h.e_netZ]; exact b2 k hk hl, fun hl => ⟨(b3 hl).1, fun k hk => by rw [h.e_backZ]; exact (b3 hl).2 k hk⟩⟩
theorem SGs.e_RMn (h : SGs σ τ) {mj mj' : MI} (hB : RMn σ mj) (m60 : mj' 60 = mj 60) : RMn τ mj' := by
  intro hs
  rw [h.sc] at hs
  rw [h.n, h.e_loB, m60]
  exact fun k hk hl => by rw [h.e_rdg]; exact hB hs k hk hl
theorem SGs.e_xv (h : SGs σ τ) : xv τ = xv σ := by funext k; unfold xv; rw [h.r1, h.r2, h.lo]
theorem SGs.pa (h : SGs σ τ) (h15 : τ 0 15 = σ 0 15) (h9 : τ 9 = σ 9) (h10 : τ 10 = σ 10) (h11 : τ 11 = σ 11) : ∀ d, pa_ τ d = pa_ σ d
  | 0 => h.e_xv
  | d + 1 => by
    show und (τ 9 ((τ 0 15).toNat - 1 - d)) (τ 10 ((τ 0 15).toNat - 1 - d)) (τ 11 ((τ 0 15).toNat - 1 - d)) (pa_ τ d) = und (σ 9 ((σ 0 15).toNat - 1 - d)) (σ 10 ((σ 0 15).toNat - 1 - d)) (σ 11 ((σ 0 15).toNat - 1 - d)) (pa_ σ d)
    rw [h15, h9, h10, h11, SGs.pa h h15 h9 h10 h11 d]
theorem SGs.e_RMp (h : SGs σ τ) (h15 : τ 0 15 = σ 0 15) (h9 : τ 9 = σ 9) (h10 : τ 10 = σ 10) (h11 : τ 11 = σ 11) {mj mj' : MI} (hP : RMp σ mj) (m56 : mj' 56 = mj 56) : RMp τ mj' := by
  intro d d0 hd k hk hr
  rw [h15] at hd
  rw [m56, h15, h.pa h15 h9 h10 h11 d]
  refine hP d d0 hd k hk ?_
  unfold rel at hr ⊢
  rw [h.n] at hr
  exact hr
end
/-- another trouble -/
def trS (σ : SG) (w : Nat) : SG := u2 σ 0 1 (w : Int)
theorem trS_s (σ : SG) (w : Nat) : SGs σ (trS σ w) := ⟨fun a ha => by unfold trS; rw [u2_o _ _ (by omega)], fun k hk => by unfold trS; rw [u2_ne2 _ _ (Or.inr (by omega))]⟩
theorem trS_o (σ : SG) (w : Nat) {a : Nat} (h : a ≠ 0) : trS σ w a = σ a := u2_o _ _ h
theorem trS_0 (σ : SG) (w : Nat) {k : Nat} (h : k ≠ 1) : trS σ w 0 k = σ 0 k := u2_ne2 _ _ (Or.inr h)
theorem trS_1 (σ : SG) (w : Nat) : trS σ w 0 1 = w := u2_s _ _ _ _
section
variable {nb db b : Nat} {by_ rs : RX} {c : Nat} {σ : SG} {mi mi' mj mj' : MI} {ml ml' mk : ML} {w : Nat}
theorem WF.why (h : WF σ) (hw : w ≤ 5) : WF (trS σ w) := by
  obtain ⟨a1, a2, a3, a4, a5, a6, a7, a8, a9, a10, a11, a12, a13, a14⟩ := h
  unfold WF
  rw [trS_1, trS_o σ w (show (1 : Nat) ≠ 0 by decide), trS_o σ w (show (2 : Nat) ≠ 0 by decide), trS_o σ w (show (3 : Nat) ≠ 0 by decide), trS_o σ w (show (4 : Nat) ≠ 0 by decide), trS_o σ w (show (8 : Nat) ≠ 0 by decide)]
  simp only [trS_0 σ w (show (0 : Nat) ≠ 1 by decide), trS_0 σ w (show (4 : Nat) ≠ 1 by decide), trS_0 σ w (show (5 : Nat) ≠ 1 by decide), trS_0 σ w (show (6 : Nat) ≠ 1 by decide), trS_0 σ w (show (7 : Nat) ≠ 1 by decide), trS_0 σ w (show (8 : Nat) ≠ 1 by decide), trS_0 σ w (show (9 : Nat) ≠ 1 by decide), trS_0 σ w (show (10 : Nat) ≠ 1 by decide), trS_0 σ w (show (11 : Nat) ≠ 1 by decide), trS_0 σ w (show (12 : Nat) ≠ 1 by decide), trS_0 σ w (show (15 : Nat) ≠ 1 by decide)]
  exact ⟨a1, a2, a3, a4, a5, a6, a7, a8, ⟨by omega, by omega⟩, a10, a11, a12, a13, a14⟩
theorem FC.why (hbb : nb = 43 ∨ nb = 5) (h : FC σ nb mi ml) (hw : w ≤ 5) (hw4 : w ≠ 4) (hf : FCw mi mi' w) : FC (trS σ w) nb mi' ml := by
  obtain ⟨⟨hW, ⟨a1, a2, a3, a4, a5, a6, a7, a8, a9, a10, a11⟩, hB⟩, hL, hl, hN, hA, hR⟩ := h
  obtain ⟨f1, f2, f3⟩ := hf
  have S := trS_s σ w
  have g := fun a h1 h18 => f3 a h1 h18
  have z := fun {k : Nat} (h : k ≠ 1) => trS_0 σ w h
  refine ⟨⟨hW.why hw, ⟨?_, ?_, ?_, fun e => ?_, ?_, fun k hk => ?_, ?_, ?_, ?_, ?_, ?_⟩, fun hr => ?_⟩, fun i hi => ?_, fun i hi => ?_, S.e_RCn hN (g 14 (by decide) (by decide)) (g 15 (by decide) (by decide)) rfl rfl, fun i hi => ?_, fun i hi => ?_⟩
  · rw [f2 8 (by decide), a1, z (by decide)]
  · rw [f1, trS_1]; rfl
  · rw [f2 10 (by decide), a3, z (by decide)]
  · rw [trS_1] at e; omega
  · rw [g 2 (by decide) (by decide), a5, z (by decide)]
  · rw [z (by decide)] at hk
    rw [g 3 (by decide) (by decide), trS_o _ _ (by decide)]; exact a6 k hk
  · rw [g 11 (by decide) (by decide), a7, z (by decide)]
  · rw [g 11 (by decide) (by decide), a8, z (by decide)]
  · rw [g 11 (by decide) (by decide), a9, z (by decide)]
  · rw [g 11 (by decide) (by decide), a10, z (by decide)]
  · rw [g 39 (by decide) (by decide), a11, z (by decide)]
  · rw [z (by decide)] at hr
    exact S.e_RCb ((hB hr).fr hbb (fun q hq => g q (by omega) (by omega)))
  · rw [z (by decide)] at hi
    rw [trS_o _ _ (show (5 : Nat) ≠ 0 by decide), trS_o _ _ (show (6 : Nat) ≠ 0 by decide)]; exact hL i hi
  · rw [z (by decide)] at hi
    rw [g 12 (by decide) (by decide), g 13 (by decide) (by decide), trS_o _ _ (show (5 : Nat) ≠ 0 by decide), trS_o _ _ (show (6 : Nat) ≠ 0 by decide)]; exact hl i hi
  · rw [z (by decide)] at hi
    rw [trS_o _ _ (show (9 : Nat) ≠ 0 by decide), trS_o _ _ (show (10 : Nat) ≠ 0 by decide), trS_o _ _ (show (11 : Nat) ≠ 0 by decide), z (by decide)]; exact hA i hi
  · rw [z (by decide)] at hi
    rw [g 40 (by decide) (by decide), g 41 (by decide) (by decide), g 42 (by decide) (by decide), trS_o _ _ (show (9 : Nat) ≠ 0 by decide), trS_o _ _ (show (10 : Nat) ≠ 0 by decide), trS_o _ _ (show (11 : Nat) ≠ 0 by decide)]; exact hR i hi
theorem FR.why (h : FR σ mj) (hw : w ≤ 5) (hw4 : w ≠ 4) (hf : FRw mj mj' w) : FR (trS σ w) mj' := by
  obtain ⟨⟨hW, ⟨a1, a2, a3, a4, a5, a6, a7, a8, a9, a10, a11, a12, a13, a14, a15⟩, hB⟩, hl, hN, hP⟩ := h
  obtain ⟨f1, f2, f3, f4⟩ := hf
  have S := trS_s σ w
  have z := fun {k : Nat} (h : k ≠ 1) => trS_0 σ w h
  refine ⟨⟨hW.why hw, ⟨?_, ?_, ?_, ?_, ?_, ?_, ?_, ?_, ?_, ?_, ?_, ?_, fun k hk => ?_, fun e => ?_, ?_⟩, S.e_RMb (hB.eq (fun q hq => f4 q (by omega) (by omega)))⟩, fun i hi => ?_, S.e_RMn hN (f4 60 (by decide) (by decide)), S.e_RMp (z (by decide)) (trS_o _ _ (by decide)) (trS_o _ _ (by decide)) (trS_o _ _ (by decide)) hP (f4 56 (by decide) (by decide))⟩
  · rw [f1, trS_1]; rfl
  · rw [trS_1, if_neg (by omega), f2]; rfl
  · rw [f3 5 (by decide) (by decide), a3, z (by decide)]
  · rw [f3 9 (by decide) (by decide), a4, z (by decide)]
  · rw [f3 26 (by decide) (by decide), a5, z (by decide)]
  · rw [f3 30 (by decide) (by decide), a6, z (by decide)]
  · rw [f3 32 (by decide) (by decide), a7, z (by decide)]
  · rw [f3 38 (by decide) (by decide), a8, z (by decide)]
  · rw [f3 43 (by decide) (by decide), a9, z (by decide)]
  · rw [f3 44 (by decide) (by decide), a10, z (by decide)]
  · rw [f3 45 (by decide) (by decide), a11, z (by decide)]
  · rw [f3 46 (by decide) (by decide), a12, z (by decide)]
  · rw [z (by decide)] at hk
    rw [f4 57 (by decide) (by decide), trS_o _ _ (by decide)]; exact a13 k hk
  · rw [z (by decide)] at e
    obtain ⟨b1, b2, b3⟩ := a14 e
    exact ⟨by rw [f3 6 (by decide) (by decide), b1, z (by decide)], by rw [f3 7 (by decide) (by decide), b2, z (by decide)], by rw [f3 8 (by decide) (by decide), b3, z (by decide)]⟩
  · rw [f4 54 (by decide) (by decide), a15, z (by decide)]
  · rw [z (by decide)] at hi
    rw [f4 58 (by decide) (by decide), f4 59 (by decide) (by decide), z (by decide), trS_o _ _ (show (5 : Nat) ≠ 0 by decide), trS_o _ _ (show (6 : Nat) ≠ 0 by decide)]; exact hl i hi
/-- a call that only tells goes on -/
theorem Adv.of {yw yr : Nat} {as : List AV} (hb : nb = 43 ∧ db = 5 ∨ nb = 5 ∧ db = 43) (I : FC σ nb mi ml) (J : FR σ mj) (A : Agr yw yr as nb db by_ rs mi ml mj mk) : ∀ c : Nat, ∃ (v : AV) (σ' : SG) (mi' : MI) (mj' : MI) (mk' : ML), Ret yw (vR 10 0 1 :: as) (some v) c (MRc nb db by_ rs) mi ml mi' ml ∧ Ret yr (vR 19 0 48 :: as) (some v) c (MRc nb db by_ rs) mj mk mj' mk' ∧ FC σ' nb mi' ml ∧ FR σ' mj' ∧ SGs σ σ' ∧ (∀ a, 19 ≤ a → mi' a = mi a) ∧ mi' 0 = mi 0 ∧ (∀ a, a < 48 ∨ 65 < a → mj' a = mj a) ∧ FLw mk mk' ∧ isV yw v = true := by
  intro c
  obtain ⟨v, w, mi', mj', mk', h1, h2, h3, h4, h5, h6, h7, h8⟩ := A c
  exact ⟨v, trS σ w, mi', mj', mk', h3, h4, I.why (hbb_of hb) h1 h2 h5, J.why h1 h2 h6, trS_s σ w, fun a ha => h5.2.2 a (by omega) (by omega), h5.2.2 0 (by decide) (by decide), fun a ha => h6.2.2.2 a (by omega) (by omega), h7, h8⟩
end
