/-! ===== suspects: the class, shut, sums, the log; one suspect ===== -/
def rS (σ : SG) (j k : Nat) : Int := sumZ (fun i => if i = j then 0 else xB σ i) k
theorem rS_bd {σ : SG} {j : Nat} : ∀ k : Nat, (∀ i, i < k → i ≠ j → pt (backZ σ i) (σ 0 5 + 1)) → 0 ≤ rS σ j k ∧ rS σ j k ≤ k * 9999
  | 0, _ => by simp [rS, sumZ]
  | k + 1, h => by
    have ih := rS_bd k (fun i hi => h i (by omega))
    have e : rS σ j (k + 1) = rS σ j k + (if k = j then 0 else xB σ k) := rfl
    rw [e]
    by_cases hk : k = j
    · rw [if_pos hk]; omega
    · rw [if_neg hk]
      have := (h k (by omega) hk).2
      unfold xB
      omega
section
variable {nb db b : Nat} {by_ rs : RX} {c : Nat} {σ : SG} {mi mj : MI} {ml mk : ML} {x j : Int32}
def ptS (σ : SG) (j : Nat) : Prop := (∀ k : Nat, (k : Int) < σ 0 5 → k ≠ j → pt (backZ σ k) (σ 0 5 + 1)) ∧ 0 ≤ mon σ - rS σ j (σ 0 5).toNat ∧ mon σ - rS σ j (σ 0 5).toNat ≤ 9999
theorem S_shutL (hbb : b = 43 ∨ b = 5) (S : SU σ b mi ml) {j : Nat} (hx : x = nI j) {n : Nat} (hn : σ 0 5 = n) (hj : j < n) : ∀ k, k ≤ n → ∀ (i : Int32) (a : Int64) (m : MI), i = nI k → a = zL (mon σ - rS σ j k) → F18 mi m → (∀ i, i < k → i ≠ j → pt (backZ σ i) (σ 0 5 + 1) ∧ m 18 i = zI (xB σ i)) →
    ∃ m', F18 mi m' ∧ ((ptS σ j ∧ Go m_su_supposeShut 23 [some (vR 15 0 17), some (vI x), some (vR 13 0 b), some (vR 14 0 11), some (vL a), none, some (vI i)] [] (some (vI (nI 1))) c (MRc nb db by_ rs) m ml m' ml ∧ ∀ k, k < n → m' 18 k = zI (if k = j then mon σ - rS σ j n else xB σ k)) ∨ (¬ ptS σ j ∧ Go m_su_supposeShut 23 [some (vR 15 0 17), some (vI x), some (vR 13 0 b), some (vR 14 0 11), some (vL a), none, some (vI i)] [] (some (vI (nI 0))) c (MRc nb db by_ rs) m ml m' ml)) := by
  obtain ⟨hW, hr, hB, hbk, -⟩ := S
  have nd := hW.nn
  have hm0 := mon_bd hW
  have en : (σ 0 5).toNat = n := by omega
  refine upto ?_ ?_
  · intro i a m hi ha hm hp
    have rb := rS_bd n (fun i h1 h2 => (hp i h1 h2).1)
    have hc := (hm.B hbb hB).n hn
    have hpt : pt (mon σ - rS σ j n) 1 ↔ (0 ≤ mon σ - rS σ j n ∧ mon σ - rS σ j n ≤ 9999) := by
      unfold pt
      rw [Int.tmod_one, Int.tdiv_one]
      exact ⟨fun h => h.2, fun h => ⟨rfl, h⟩⟩
    by_cases h : pt (mon σ - rS σ j n) 1
    · refine ⟨_, hm.u j (zI ((mon σ - rS σ j n).tdiv 1)), Or.inl ⟨⟨fun k hk hkj => (hp k (by omega) hkj).1, by rw [en]; exact hpt.mp h⟩, g_su_supposeShut_23 hbb ⟨fun _ => ⟨_, _, _, R_put_t hx (by omega) ⟨by omega, by omega⟩ (by decide) ha rfl h, Or.inr rfl, rfl, rfl, rfl⟩, fun h => absurd (lp_d hc hi) h⟩, fun k hk => ?_⟩⟩
      by_cases e : k = j
      · rw [if_pos e, e, u2_s, Int.tdiv_one]
      · rw [if_neg e, u2_ne2 _ _ (Or.inr e), (hp k hk e).2]
    · refine ⟨m, hm, Or.inr ⟨fun z => h (hpt.mpr (by have := z.2; rw [en] at this; exact this)), g_su_supposeShut_23 hbb ⟨fun _ => ⟨_, _, _, R_put_f hx (by omega) ⟨by omega, by omega⟩ (by decide) ha rfl h, Or.inl rfl, rfl, rfl, rfl⟩, fun h => absurd (lp_d hc hi) h⟩⟩⟩
  · intro k hk ih i a m hi ha hm hp
    have hc := (hm.B hbb hB).n hn
    have ne : i = x ↔ k = j := by rw [hi, hx, nI_eq (by omega) (by omega)]
    have rs1 : rS σ j (k + 1) = rS σ j k + (if k = j then 0 else xB σ k) := rfl
    have bb := back_bd hW k
    by_cases e : k = j
    · obtain ⟨m', f1, f2⟩ := ih (i + nI 1) a m (inc hi) (by rw [ha, rs1, if_pos e, Int.add_zero]) hm (fun i' h1 h2 => hp i' (by omega) h2)
      have st : ∀ r, Go m_su_supposeShut 23 [some (vR 15 0 17), some (vI x), some (vR 13 0 b), some (vR 14 0 11), some (vL a), none, some (vI (i + nI 1))] [] (some (vI r)) c (MRc nb db by_ rs) m ml m' ml → Go m_su_supposeShut 23 [some (vR 15 0 17), some (vI x), some (vR 13 0 b), some (vR 14 0 11), some (vL a), none, some (vI i)] [] (some (vI r)) c (MRc nb db by_ rs) m ml m' ml := fun r G =>
        g_su_supposeShut_23 hbb ⟨fun h => absurd h (lp_g hc hi hk (by omega)), fun _ => ⟨fun _ => G, fun g => absurd (ne.mpr e) g⟩⟩
      rcases f2 with ⟨g1, g2, g3⟩ | ⟨g1, g2⟩
      · exact ⟨m', f1, Or.inl ⟨g1, st _ g2, g3⟩⟩
      · exact ⟨m', f1, Or.inr ⟨g1, st _ g2⟩⟩
    · by_cases hpk : pt (backZ σ k) (σ 0 5 + 1)
      · have hxk := hpk.2
        obtain ⟨m', f1, f2⟩ := ih (i + nI 1) (a - (u2 m 18 k (zI (xB σ k)) 18 i.toNatClampNeg).toInt64) (u2 m 18 k (zI (xB σ k))) (inc hi) (by
          rw [cln hi (by omega), u2_s, zI_l ⟨by unfold xB; omega, by unfold xB; omega⟩, ha, zL_sub, rs1, if_neg e]
          congr 1; omega) (hm.u _ _) (fun i' h1 h2 => by
          by_cases e2 : i' = k
          · rw [e2, u2_s]; exact ⟨hpk, rfl⟩
          · rw [u2_ne2 _ _ (Or.inr e2)]; exact hp i' (by omega) h2)
        have st : ∀ r, Go m_su_supposeShut 23 [some (vR 15 0 17), some (vI x), some (vR 13 0 b), some (vR 14 0 11), some (vL (a - (u2 m 18 k (zI (xB σ k)) 18 i.toNatClampNeg).toInt64)), none, some (vI (i + nI 1))] [] (some (vI r)) c (MRc nb db by_ rs) (u2 m 18 k (zI (xB σ k))) ml m' ml → Go m_su_supposeShut 23 [some (vR 15 0 17), some (vI x), some (vR 13 0 b), some (vR 14 0 11), some (vL a), none, some (vI i)] [] (some (vI r)) c (MRc nb db by_ rs) m ml m' ml := fun r G =>
          g_su_supposeShut_23 hbb ⟨fun h => absurd h (lp_g hc hi hk (by omega)), fun _ => ⟨fun g => absurd (ne.mp g) e, fun _ => ⟨ixn hi (by omega) (by decide), _, _, _, R_put_t hi (by omega) ⟨by omega, by omega⟩ ⟨by omega, by omega⟩ (by rw [cln hi (by omega)]; exact hbk k (by omega)) ((hm.B hbb hB).nI1 hW) hpk, fun _ => ⟨ixn hi (by omega) (by decide), G⟩, fun g => absurd g n10⟩⟩⟩
        rcases f2 with ⟨g1, g2, g3⟩ | ⟨g1, g2⟩
        · exact ⟨m', f1, Or.inl ⟨g1, st _ g2, g3⟩⟩
        · exact ⟨m', f1, Or.inr ⟨g1, st _ g2⟩⟩
      · exact ⟨m, hm, Or.inr ⟨fun z => hpk (z.1 k (by omega) e), g_su_supposeShut_23 hbb ⟨fun h => absurd h (lp_g hc hi hk (by omega)), fun _ => ⟨fun g => absurd (ne.mp g) e, fun _ => ⟨ixn hi (by omega) (by decide), _, _, _, R_put_f hi (by omega) ⟨by omega, by omega⟩ ⟨by omega, by omega⟩ (by rw [cln hi (by omega)]; exact hbk k (by omega)) ((hm.B hbb hB).nI1 hW) hpk, fun g => absurd rfl g, fun _ => ⟨rfl, rfl, rfl⟩⟩⟩⟩⟩⟩
theorem R_sum (hbb : b = 43 ∨ b = 5) (hW : WF σ) (hB : RCb σ b mi) {v : Nat → Int} (hv : ∀ k : Nat, (k : Int) < σ 0 5 → mi 18 k = zI (v k)) (hb : ∀ k : Nat, (k : Int) < σ 0 5 → 0 ≤ v k ∧ v k ≤ 9999) : (sumZ v (σ 0 5).toNat = mon σ ∧ Ret m_su_sumIsRight [vR 15 0 17, vR 13 0 b] (some (vI (nI 1))) c (MRc nb db by_ rs) mi ml mi ml) ∨ (¬ sumZ v (σ 0 5).toNat = mon σ ∧ Ret m_su_sumIsRight [vR 15 0 17, vR 13 0 b] (some (vI (nI 0))) c (MRc nb db by_ rs) mi ml mi ml) := by
  obtain ⟨n, hn, h31⟩ := wf_n hW
  have en : (σ 0 5).toNat = n := by omega
  rw [en]
  have hm := mon_bd hW
  have h0 := hB.n hn
  have bs : 0 ≤ sumZ v n ∧ sumZ v n ≤ n * 9999 := by
    have e : sumZ v n = sumZ (fun k => if k < n then v k else 0) n := sumZ_cg n (fun k hk => (if_pos hk).symm)
    rw [e]
    exact sumZ_bd (fun k => by
      by_cases h : k < n
      · rw [if_pos h]; exact hb k (by omega)
      · rw [if_neg h]; omega) n
  have key : ∀ r : Int32, (sumZ v n = mon σ → r = nI 1) → (¬ sumZ v n = mon σ → r = nI 0) → Ret m_su_sumIsRight [vR 15 0 17, vR 13 0 b] (some (vI r)) c (MRc nb db by_ rs) mi ml mi ml := by
    intro r r1 r0
    refine g_su_sumIsRight_0 hbb ?_
    have key : ∀ k, k ≤ n → ∀ i a, i = nI k → a = zI (sumZ v k) → Go m_su_sumIsRight 4 [some (vR 15 0 17), some (vR 13 0 b), some (vI a), some (vI i)] [] (some (vI r)) c (MRc nb db by_ rs) mi ml mi ml := by
      refine upto ?_ ?_
      · intro i a hi ha
        refine g_su_sumIsRight_4 hbb ⟨fun _ => ⟨_, R_monitor hbb hW hB, fun g => ⟨?_, rfl, rfl⟩, fun g => ⟨?_, rfl, rfl⟩⟩, fun h => absurd (lp_d h0 hi) h⟩
        · rw [ha, zI_eq ⟨by omega, by omega⟩ ⟨by omega, by omega⟩] at g
          rw [r0 g]
        · rw [ha, zI_eq ⟨by omega, by omega⟩ ⟨by omega, by omega⟩] at g
          rw [r1 g]
      · intro k hk ih i a hi ha
        refine g_su_sumIsRight_4 hbb ⟨fun h => absurd h (lp_g h0 hi hk (by omega)), fun _ => ⟨ixn hi (by omega) (by decide), ih _ _ (inc hi) ?_⟩⟩
        rw [ha, cln hi (by omega), hv k (by omega), zI_add]; rfl
    exact key 0 (by omega) _ _ rfl rfl
  by_cases h : sumZ v n = mon σ
  · exact Or.inl ⟨h, key _ (fun _ => rfl) (fun z => absurd h z)⟩
  · exact Or.inr ⟨h, key _ (fun z => absurd z h) (fun _ => rfl)⟩
/-- the log, by lights v and bits B -/
def lgV (σ : SG) (v : Nat → Int) (B : Nat → Nat → Nat) (i : Nat) : Prop := σ 0 7 + sumZ (fun k => (B i k : Int) * v k) (σ 0 5).toNat = σ 6 i
theorem R_log (hbb : b = 43 ∨ b = 5) (hW : WF σ) (hB : RCb σ b mi) (hL : mi 11 2 = zI (σ 0 11)) (hl : RCl σ mi) (hlb : ∀ i : Nat, (i : Int) < σ 0 11 → 0 ≤ σ 6 i ∧ σ 6 i ≤ 310968) {v : Nat → Int} (hv : ∀ k : Nat, (k : Int) < σ 0 5 → mi 18 k = zI (v k)) (hb : ∀ k : Nat, (k : Int) < σ 0 5 → 0 ≤ v k ∧ v k ≤ 9999) {o s : Int32} {B : Nat → Nat → Nat} (ht : ∀ i : Nat, (i : Int) < σ 0 11 → ∃ t : Nat, t < 2 ^ 31 ∧ (zI (σ 5 i) &&& (s ^^^ -(nI 1))) ||| o = nI t ∧ ∀ k : Nat, (k : Int) < σ 0 5 → bt t k = B i k) :
    ((∀ i : Nat, (i : Int) < σ 0 11 → lgV σ v B i) ∧ Ret m_su_logIsRight [vR 15 0 17, vR 13 0 b, vR 14 0 11, vI o, vI s] (some (vI (nI 1))) c (MRc nb db by_ rs) mi ml mi ml) ∨ ((¬ ∀ i : Nat, (i : Int) < σ 0 11 → lgV σ v B i) ∧ Ret m_su_logIsRight [vR 15 0 17, vR 13 0 b, vR 14 0 11, vI o, vI s] (some (vI (nI 0))) c (MRc nb db by_ rs) mi ml mi ml) := by
  obtain ⟨n, hn, h31⟩ := wf_n hW
  have en : (σ 0 5).toNat = n := by omega
  have h20 := hW.lg
  have hdk := hW.dk
  obtain ⟨L, eL⟩ : ∃ L : Nat, σ 0 11 = L := ⟨(σ 0 11).toNat, by omega⟩
  have hL : mi 11 2 = nI L := by rw [hL, eL]; rfl
  have h0 := hB.n hn
  have h2 : mi b 2 = zI (σ 0 7) := hB.2.2.1
  have bs : ∀ i : Nat, (i : Int) < σ 0 11 → ∀ k : Nat, k ≤ n → 0 ≤ sumZ (fun k => (B i k : Int) * v k) k ∧ sumZ (fun k => (B i k : Int) * v k) k ≤ k * 9999 := fun i hi k hk => by
    obtain ⟨t, -, -, hb2⟩ := ht i hi
    have e : sumZ (fun k => (B i k : Int) * v k) k = sumZ (fun q => if q < n then (B i q : Int) * v q else 0) k := sumZ_cg k (fun q hq => (if_pos (by omega)).symm)
    rw [e]
    exact sumZ_bd (fun q => by
      by_cases h : q < n
      · rw [if_pos h, ← hb2 q (by omega)]
        have := hb q (by omega)
        rcases bt_01 t q with z | z
        · rw [z]; simp
        · rw [z]; simp; exact this
      · rw [if_neg h]; omega) k
  have outer : ∀ i, i ≤ L → ∀ ii, ii = nI i → ((∀ i' : Nat, i ≤ i' → i' < L → lgV σ v B i') ∧ Go m_su_logIsRight 3 [some (vR 15 0 17), some (vR 13 0 b), some (vR 14 0 11), some (vI o), some (vI s), some (vI ii), none, none, none] [] (some (vI (nI 1))) c (MRc nb db by_ rs) mi ml mi ml) ∨ ((∃ i' : Nat, i ≤ i' ∧ i' < L ∧ ¬ lgV σ v B i') ∧ Go m_su_logIsRight 3 [some (vR 15 0 17), some (vR 13 0 b), some (vR 14 0 11), some (vI o), some (vI s), some (vI ii), none, none, none] [] (some (vI (nI 0))) c (MRc nb db by_ rs) mi ml mi ml) := by
    refine upto ?_ ?_
    · intro ii hi
      exact Or.inl ⟨fun i' h1 h2 => by omega, g_su_logIsRight_3 hbb ⟨fun _ => ⟨rfl, rfl, rfl⟩, fun h => absurd (lp_d hL hi) h⟩⟩
    · intro i hi ih ii hii
      obtain ⟨t, ht31, et, hbt⟩ := ht i (by omega)
      have b6 := hlb i (by omega)
      have inner : ∀ r, (lgV σ v B i → Go m_su_logIsRight 3 [some (vR 15 0 17), some (vR 13 0 b), some (vR 14 0 11), some (vI o), some (vI s), some (vI (ii + nI 1)), none, none, none] [] (some (vI r)) c (MRc nb db by_ rs) mi ml mi ml) → (¬ lgV σ v B i → r = nI 0) → Go m_su_logIsRight 3 [some (vR 15 0 17), some (vR 13 0 b), some (vR 14 0 11), some (vI o), some (vI s), some (vI ii), none, none, none] [] (some (vI r)) c (MRc nb db by_ rs) mi ml mi ml := by
        intro r r1 r0
        refine g_su_logIsRight_3 hbb ⟨fun h => absurd h (lp_g hL hii hi (by omega)), fun _ => ⟨ixn hii (by omega) (by decide), ?_⟩⟩
        have key : ∀ k, k ≤ n → ∀ kk a u, kk = nI k → a = zI (σ 0 7 + sumZ (fun k => (B i k : Int) * v k) k) → u = nI t → Go m_su_logIsRight 37 [some (vR 15 0 17), some (vR 13 0 b), some (vR 14 0 11), some (vI o), some (vI s), some (vI ii), some (vI u), some (vI a), some (vI kk)] [] (some (vI r)) c (MRc nb db by_ rs) mi ml mi ml := by
          refine upto ?_ ?_
          · intro kk a u hk ha hu
            have b7 := bs i (by omega) n (by omega)
            have e6 : mi 13 ii.toNatClampNeg = zI (σ 6 i) := by rw [cln hii (by omega)]; exact (hl i (by omega)).2
            have eq : a = mi 13 ii.toNatClampNeg ↔ lgV σ v B i := by
              rw [ha, e6, zI_eq ⟨by omega, by omega⟩ ⟨by omega, by omega⟩]
              unfold lgV; rw [en]
            refine g_su_logIsRight_37 hbb ⟨fun _ => ⟨ixn hii (by omega) (by decide), fun g => r1 (eq.mp g), fun g => ⟨?_, rfl, rfl⟩⟩, fun h => absurd (lp_d h0 hk) h⟩
            rw [r0 (fun z => g (eq.mpr z))]
          · intro k hk ih2 kk a u hkk ha hu
            have e := bit_i hu hkk ht31 (show k < 32 by omega)
            rw [hbt k (by omega)] at e
            have b01 : B i k = 0 ∨ B i k = 1 := by rw [← hbt k (by omega)]; exact bt_01 t k
            refine g_su_logIsRight_37 hbb ⟨fun h => absurd h (lp_g h0 hkk hk (by omega)), fun _ => ⟨fun g => ih2 _ _ _ (inc hkk) ?_ hu, fun g => ⟨ixn hkk (by omega) (by decide), ih2 _ _ _ (inc hkk) ?_ hu⟩⟩⟩
            · rw [e, nI_01 b01] at g
              rw [ha]
              show _ = zI (σ 0 7 + (sumZ (fun k => (B i k : Int) * v k) k + (B i k : Int) * v k))
              rw [show B i k = 0 by omega]; simp
            · rw [e, nI_01 b01] at g
              rw [ha, cln hkk (by omega), hv k (by omega), zI_add]
              show _ = zI (σ 0 7 + (sumZ (fun k => (B i k : Int) * v k) k + (B i k : Int) * v k))
              rw [g, Int.add_assoc]; simp
        refine key 0 (by omega) _ _ _ rfl ?_ ?_
        · rw [h2]; show _ = zI (σ 0 7 + 0); rw [Int.add_zero]
        · rw [cln hii (by omega), (hl i (by omega)).1, et]
      by_cases h : lgV σ v B i
      · rcases ih (ii + nI 1) (inc hii) with ⟨g1, g2⟩ | ⟨⟨i', k1, k2, k3⟩, g2⟩
        · refine Or.inl ⟨fun i' h1 h2 => ?_, inner _ (fun _ => g2) (fun z => absurd h z)⟩
          rcases Nat.lt_or_ge i i' with z | z
          · exact g1 i' (by omega) h2
          · rw [show i' = i by omega]; exact h
        · exact Or.inr ⟨⟨i', by omega, k2, k3⟩, inner _ (fun _ => g2) (fun z => absurd h z)⟩
      · exact Or.inr ⟨⟨i, by omega, hi, h⟩, inner _ (fun z => absurd z h) (fun _ => rfl)⟩
  rcases outer 0 (by omega) _ rfl with ⟨g1, g2⟩ | ⟨⟨i', k1, k2, k3⟩, g2⟩
  · exact Or.inl ⟨fun i hi => g1 i (by omega) (by omega), g_su_logIsRight_0 hbb g2⟩
  · exact Or.inr ⟨fun h => k3 (h i' (by omega)), g_su_logIsRight_0 hbb g2⟩
end
