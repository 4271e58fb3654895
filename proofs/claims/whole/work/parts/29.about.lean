/-! ===== about, size, fault, where, trouble, blinds ===== -/
theorem go_tbl (tgs : List Nat) (dt n : Nat) {y pc len : Nat} {ls : eLS} {t : List AV} {x : Int32} {rv : Option AV} {c : Nat} {mr : MR} {mi mi' : MI} {ml ml' : ML} (hd : decode (mCd y) pc = .ok (.tableswitch ((dt : Int) - pc) 0 ((n : Int) - 1) (tgs.map (fun (t : Nat) => (t : Int) - pc)).toArray, len)) (hn : tgs.length = n) (hn31 : n ≤ 1000)
    {i : Nat} (hx : x = nI i) (tg : Nat) (ht : tgs[i]? = some tg) (K : Go y tg ls t rv c mr mi ml mi' ml') : Go y pc ls (vI x :: t) rv c mr mi ml mi' ml' := by
  intro Q hQ
  have hi : i < n := by rw [← hn]; exact (List.getElem?_eq_some_iff.mp ht).1
  refine at_tbl tgs dt n hd hn hn31 (fun j tg' hj hxj => ?_) (fun hout => ?_)
  · have hj2 : j < n := by rw [← hn]; exact (List.getElem?_eq_some_iff.mp hj).1
    rw [hx, nI_eq (by omega) (by omega)] at hxj
    rw [← hxj, ht] at hj
    cases hj
    exact K Q hQ
  · rw [hx, nI_toInt (by omega)] at hout
    omega
theorem go_tbld (tgs : List Nat) (dt n : Nat) {y pc len : Nat} {ls : eLS} {t : List AV} {x : Int32} {rv : Option AV} {c : Nat} {mr : MR} {mi mi' : MI} {ml ml' : ML} (hd : decode (mCd y) pc = .ok (.tableswitch ((dt : Int) - pc) 0 ((n : Int) - 1) (tgs.map (fun (t : Nat) => (t : Int) - pc)).toArray, len)) (hn : tgs.length = n) (hn31 : n ≤ 1000)
    (hx : ∀ i, i < n → x ≠ nI i) (K : Go y dt ls t rv c mr mi ml mi' ml') : Go y pc ls (vI x :: t) rv c mr mi ml mi' ml' := by
  intro Q hQ
  refine at_tbl tgs dt n hd hn hn31 (fun j tg' hj hxj => ?_) (fun hout => K Q hQ)
  exact absurd hxj (hx j (by rw [← hn]; exact (List.getElem?_eq_some_iff.mp hj).1))
theorem pl0 : ∀ q ∈ bns, pcN 32 (plN q.1 q.2 0) = (q.2 + 1) / 2 := by decide +kernel
/-- class and reference answer alike, and leave all as it was -/
def Agr0 (yw yr : Nat) (as : List AV) (nb db : Nat) (by_ rs : RX) (mi : MI) (ml : ML) (mj : MI) (mk : ML) : Prop :=
  ∃ v : AV, (∀ c, Ret yw (vR 10 0 1 :: as) (some v) c (MRc nb db by_ rs) mi ml mi ml) ∧ (∀ c, Ret yr (vR 19 0 48 :: as) (some v) c (MRc nb db by_ rs) mj mk (u2 mj 48 0 (nI 0)) mk) ∧ isV yw v = true
section
variable {nb db : Nat} {by_ rs : RX} {c : Nat} {σ : SG} {mi mj : MI} {ml mk : ML} {x j : Int32}
theorem A_fault (I : IC σ nb mi) (J : IR σ mj) : Agr0 m_w_fault m_r_fault [] nb db by_ rs mi ml mj mk := by
  have h1 : mi 1 10 = zI (σ 0 2) := I.2.1.2.2.1
  have h2 : mj 48 38 = zI (σ 0 2) := J.2.1.2.2.2.2.2.2.2.1
  exact ⟨vI (zI (σ 0 2)), fun c => g_w_fault_0 ⟨by rw [h1], rfl, rfl⟩, fun c => g_r_fault_0 ⟨by rw [h2], rfl, rfl⟩, rfl⟩
theorem A_trouble (I : IC σ nb mi) (J : IR σ mj) : Agr0 m_w_trouble m_r_trouble [] nb db by_ rs mi ml mj mk := by
  have h1 : mi 1 9 = zI (σ 0 1) := I.2.1.2.1
  have h2 : mj 48 1 = zI (σ 0 1) := J.2.1.1
  exact ⟨vI (zI (σ 0 1)), fun c => g_w_trouble_0 ⟨by rw [h1], rfl, rfl⟩, fun c => g_r_trouble_0 ⟨by rw [h2], rfl, rfl⟩, rfl⟩
theorem WF.tr {σ : SG} (h : WF σ) : 0 ≤ σ 0 1 ∧ σ 0 1 ≤ 5 := h.2.2.2.2.2.2.2.2.1
theorem A_where (I : IC σ nb mi) (J : IR σ mj) : Agr0 m_w_where m_r_where [] nb db by_ rs mi ml mj mk := by
  have h1 : mi 1 9 = zI (σ 0 1) := I.2.1.2.1
  have h2 : mj 48 2 = (if σ 0 1 = 4 then zI (σ 0 3) else zI (-1)) := J.2.1.2.1
  have ht := J.1.tr
  by_cases h : σ 0 1 = 4
  · rw [if_pos h] at h2
    have h3 : mi 1 11 = zI (σ 0 3) := I.2.1.2.2.2.1 h
    exact ⟨vI (zI (σ 0 3)), fun c => g_w_where_0 ⟨fun g => absurd (by rw [h1, h]; rfl) g, fun _ => ⟨by rw [h3], rfl, rfl⟩⟩, fun c => g_r_where_0 ⟨by rw [h2], rfl, rfl⟩, rfl⟩
  · rw [if_neg h] at h2
    refine ⟨vI (zI (-1)), fun c => g_w_where_0 ⟨fun _ => ⟨rfl, rfl, rfl⟩, fun g => ?_⟩, fun c => g_r_where_0 ⟨by rw [h2], rfl, rfl⟩, rfl⟩
    rw [h1, show nI 4 = zI 4 from rfl, zI_eq ⟨by omega, by omega⟩ (by decide)] at g
    exact absurd g h
theorem z_nat {z : Int} (h : 0 ≤ z) : zI z = nI z.toNat := by rw [nI_z, Int.toNat_of_nonneg h]
theorem WF.lg0 {σ : SG} (h : WF σ) (hr : ¬ σ 0 0 = 1) : σ 0 5 = 0 ∧ σ 0 9 = 0 ∧ σ 0 10 = 0 ∧ σ 0 11 = 0 ∧ σ 0 12 = 0 ∧ σ 0 15 = 0 := by
  rcases h.1 with z | z <;> omega
theorem WF.sc {σ : SG} (h : WF σ) : σ 0 12 = 0 ∨ σ 0 12 = 1 := h.2.2.2.2.2.1
theorem A_size (hb : nb = 43 ∧ db = 5 ∨ nb = 5 ∧ db = 43) (I : IC σ nb mi) (J : IR σ mj) : Agr0 m_w_size m_r_size [vI x] nb db by_ rs mi ml mj mk := by
  obtain ⟨hW, hs, hB⟩ := J
  have k9 : mj 48 9 = zI (σ 0 9) := hs.2.2.2.1
  have kl : mj 48 43 = zI (σ 0 11) := hs.2.2.2.2.2.2.2.2.1
  have ks : mj 48 46 = zI (σ 0 12) := hs.2.2.2.2.2.2.2.2.2.2.2.1
  have ka : mj 48 30 = zI (σ 0 15) := hs.2.2.2.2.2.1
  have kt : mj 48 32 = zI (σ 0 4) := hs.2.2.2.2.2.2.1
  have cl : mi 11 2 = zI (σ 0 11) := I.2.1.2.2.2.2.2.2.2.2.1
  have cs : mi 11 3 = zI (σ 0 12) := I.2.1.2.2.2.2.2.2.2.2.2.1
  have ca : mi 39 0 = zI (σ 0 15) := I.2.1.2.2.2.2.2.2.2.2.2.2
  have ct : mi 2 1 = zI (σ 0 4) := I.2.1.2.2.2.2.1
  by_cases h0 : x = nI 0
  · refine ⟨vI (zI (σ 0 9)), fun c => g_w_size_0 (go_tbl [40, 59, 78, 86, 102, 110] 118 6 dc_wsize rfl (by decide) h0 40 rfl (g_w_size_40 hb ⟨fun g => ⟨?_, rfl, rfl⟩, fun g => ⟨?_, rfl, rfl⟩⟩)), fun c => g_r_size_0 (go_tbl [44, 49, 54, 59, 72, 77] 82 6 dc_rsize rfl (by decide) h0 44 rfl (g_r_size_44 ⟨?_, rfl, rfl⟩)), rfl⟩
    · by_cases hr : σ 0 0 = 1
      · exact absurd g (rd1 I.2.1 hr)
      · rw [(hW.lg0 hr).2.1]; rfl
    · by_cases hr : σ 0 0 = 1
      · rw [(I.2.2 hr).2.2.2.2.1]
      · exact absurd (rd0 I.2.1 hr hW) g
    · exact congrArg (fun z => some (vI z)) k9.symm
  by_cases h1 : x = nI 1
  · refine ⟨vI (nI (los σ)), fun c => g_w_size_0 (go_tbl [40, 59, 78, 86, 102, 110] 118 6 dc_wsize rfl (by decide) h1 59 rfl (g_w_size_59 hb ⟨fun g => ⟨?_, rfl, rfl⟩, fun g => ?_⟩)), fun c => g_r_size_0 (go_tbl [44, 49, 54, 59, 72, 77] 82 6 dc_rsize rfl (by decide) h1 49 rfl (g_r_size_49 ⟨_, R_losses hW (RMs_th hs _), rfl, rfl, rfl⟩)), rfl⟩
    · by_cases hr : σ 0 0 = 1
      · exact absurd g (rd1 I.2.1 hr)
      · unfold los loB; rw [(hW.lg0 hr).2.2.1]; rfl
    · by_cases hr : σ 0 0 = 1
      · exact ⟨_, R_lostCount (hbb_of hb) hW (I.2.2 hr), rfl, rfl, rfl⟩
      · exact absurd (rd0 I.2.1 hr hW) g
  by_cases h2 : x = nI 2
  · exact ⟨vI (zI (σ 0 11)), fun c => g_w_size_0 (go_tbl [40, 59, 78, 86, 102, 110] 118 6 dc_wsize rfl (by decide) h2 78 rfl (g_w_size_78 ⟨by rw [cl], rfl, rfl⟩)), fun c => g_r_size_0 (go_tbl [44, 49, 54, 59, 72, 77] 82 6 dc_rsize rfl (by decide) h2 54 rfl (g_r_size_54 ⟨congrArg (fun z => some (vI z)) kl.symm, rfl, rfl⟩)), rfl⟩
  by_cases h3 : x = nI 3
  · refine ⟨vI (zI (σ 0 12)), fun c => g_w_size_0 (go_tbl [40, 59, 78, 86, 102, 110] 118 6 dc_wsize rfl (by decide) h3 86 rfl (g_w_size_86 ⟨fun g => ⟨?_, rfl, rfl⟩, fun g => ⟨?_, rfl, rfl⟩⟩)), fun c => g_r_size_0 (go_tbl [44, 49, 54, 59, 72, 77] 82 6 dc_rsize rfl (by decide) h3 59 rfl (g_r_size_59 ⟨fun g => ⟨?_, rfl, rfl⟩, fun g => ⟨?_, rfl, rfl⟩⟩)), rfl⟩
    · rcases hW.sc with z | z
      · rw [z]; rfl
      · rw [cs, z] at g; exact absurd g (by decide)
    · rcases hW.sc with z | z
      · rw [cs, z] at g; exact absurd rfl g
      · rw [z]; rfl
    · have g : mj 48 46 = 0 := g
      rcases hW.sc with z | z
      · rw [z]; rfl
      · rw [ks, z] at g; exact absurd g (by decide)
    · have g : ¬ mj 48 46 = 0 := g
      rcases hW.sc with z | z
      · rw [ks, z] at g; exact absurd rfl g
      · rw [z]; rfl
  by_cases h4 : x = nI 4
  · exact ⟨vI (zI (σ 0 15)), fun c => g_w_size_0 (go_tbl [40, 59, 78, 86, 102, 110] 118 6 dc_wsize rfl (by decide) h4 102 rfl (g_w_size_102 ⟨by rw [ca], rfl, rfl⟩)), fun c => g_r_size_0 (go_tbl [44, 49, 54, 59, 72, 77] 82 6 dc_rsize rfl (by decide) h4 72 rfl (g_r_size_72 ⟨congrArg (fun z => some (vI z)) ka.symm, rfl, rfl⟩)), rfl⟩
  by_cases h5 : x = nI 5
  · exact ⟨vI (zI (σ 0 4)), fun c => g_w_size_0 (go_tbl [40, 59, 78, 86, 102, 110] 118 6 dc_wsize rfl (by decide) h5 110 rfl (g_w_size_110 ⟨by rw [ct], rfl, rfl⟩)), fun c => g_r_size_0 (go_tbl [44, 49, 54, 59, 72, 77] 82 6 dc_rsize rfl (by decide) h5 77 rfl (g_r_size_77 ⟨congrArg (fun z => some (vI z)) kt.symm, rfl, rfl⟩)), rfl⟩
  have hn : ∀ i, i < 6 → x ≠ nI i := by
    intro i hi
    have : i = 0 ∨ i = 1 ∨ i = 2 ∨ i = 3 ∨ i = 4 ∨ i = 5 := by omega
    rcases this with rfl | rfl | rfl | rfl | rfl | rfl <;> assumption
  exact ⟨vI (-(nI 1)), fun c => g_w_size_0 (go_tbld [40, 59, 78, 86, 102, 110] 118 6 dc_wsize rfl (by decide) hn (g_w_size_118 ⟨rfl, rfl, rfl⟩)), fun c => g_r_size_0 (go_tbld [44, 49, 54, 59, 72, 77] 82 6 dc_rsize rfl (by decide) hn (g_r_size_82 ⟨rfl, rfl, rfl⟩)), rfl⟩
theorem A_about (hb : nb = 43 ∧ db = 5 ∨ nb = 5 ∧ db = 43) (I : IC σ nb mi) (J : IR σ mj) : Agr m_w_about m_r_about [vI x] nb db by_ rs mi ml mj mk := by
  obtain ⟨hW, hs, hB⟩ := J
  by_cases hr : σ 0 0 = 1
  · have hBn := (I.2.2 hr).w (hbb_of hb) (nI 0)
    obtain ⟨n, hn, h31⟩ := wf_n hW
    obtain ⟨k6, k7, k8⟩ := hs.2.2.2.2.2.2.2.2.2.2.2.2.2.1 hr
    have wc : ∀ {i : Nat}, i ≤ 8 → x = nI i → ∀ {v : AV}, (∀ c, Go m_w_about 32 [some (vR 10 0 1), some (vI x)] [vI x] (some v) c (MRc nb db by_ rs) (u2 mi 1 9 (nI 0)) ml (u2 mi 1 9 (nI 0)) ml) → ∀ c, Ret m_w_about [vR 10 0 1, vI x] (some v) c (MRc nb db by_ rs) mi ml (u2 mi 1 9 (nI 0)) ml := by
      intro i hi hx v H c
      refine g_w_about_0 ⟨fun g => absurd g (rd1 I.2.1 hr), fun _ => ⟨fun g => absurd g ?_, fun _ => ⟨fun g => absurd g ?_, fun _ => H c⟩⟩⟩
      · rw [hx]; exact nI_pos (by omega)
      · rw [hx, nI_ltI (by decide) (by omega)]; omega
    have rc : ∀ {v : AV} {mj'}, (∀ c, Go m_r_about 19 [some (vR 19 0 48), some (vI x)] [vI x] (some v) c (MRc nb db by_ rs) (u2 mj 48 0 (nI 0)) mk mj' mk) → ∀ c, Ret m_r_about [vR 19 0 48, vI x] (some v) c (MRc nb db by_ rs) mj mk mj' mk := fun H c => g_r_about_0 ⟨fun _ => H c, fun g => absurd g (rf1 hs hr)⟩
    by_cases h0 : x = nI 0
    · exact Agr.mk (vI (zI (σ 0 5))) 0 (by decide) (wc (by decide) h0 fun c => go_tbl [80, 88, 96, 104, 112, 120, 128, 136] 138 8 dc_wabout rfl (by decide) h0 80 rfl (g_w_about_80 hb ⟨by rw [hBn.1], rfl, rfl⟩)) (rc fun c => go_tbl [68, 77, 86, 95, 104, 113, 127, 136, 142] 151 9 dc_rabout rfl (by decide) h0 68 rfl (g_r_about_68 ⟨congrArg (fun z => some (vI z)) hs.2.2.1.symm, rfl, rfl⟩))
    by_cases h1 : x = nI 1
    · exact Agr.mk (vI (zI (σ 0 6))) 0 (by decide) (wc (by decide) h1 fun c => go_tbl [80, 88, 96, 104, 112, 120, 128, 136] 138 8 dc_wabout rfl (by decide) h1 88 rfl (g_w_about_88 hb ⟨by rw [hBn.2.1], rfl, rfl⟩)) (rc fun c => go_tbl [68, 77, 86, 95, 104, 113, 127, 136, 142] 151 9 dc_rabout rfl (by decide) h1 77 rfl (g_r_about_77 ⟨congrArg (fun z => some (vI z)) k6.symm, rfl, rfl⟩))
    by_cases h2 : x = nI 2
    · exact Agr.mk (vI (zI (σ 0 7))) 0 (by decide) (wc (by decide) h2 fun c => go_tbl [80, 88, 96, 104, 112, 120, 128, 136] 138 8 dc_wabout rfl (by decide) h2 96 rfl (g_w_about_96 hb ⟨by rw [hBn.2.2.1], rfl, rfl⟩)) (rc fun c => go_tbl [68, 77, 86, 95, 104, 113, 127, 136, 142] 151 9 dc_rabout rfl (by decide) h2 86 rfl (g_r_about_86 ⟨congrArg (fun z => some (vI z)) k7.symm, rfl, rfl⟩))
    by_cases h3 : x = nI 3
    · exact Agr.mk (vI (zI (σ 0 8))) 0 (by decide) (wc (by decide) h3 fun c => go_tbl [80, 88, 96, 104, 112, 120, 128, 136] 138 8 dc_wabout rfl (by decide) h3 104 rfl (g_w_about_104 hb ⟨by rw [hBn.2.2.2.1], rfl, rfl⟩)) (rc fun c => go_tbl [68, 77, 86, 95, 104, 113, 127, 136, 142] 151 9 dc_rabout rfl (by decide) h3 95 rfl (g_r_about_95 ⟨congrArg (fun z => some (vI z)) k8.symm, rfl, rfl⟩))
    by_cases h4 : x = nI 4
    · exact Agr.mk (vI (zI (mon σ))) 0 (by decide) (wc (by decide) h4 fun c => go_tbl [80, 88, 96, 104, 112, 120, 128, 136] 138 8 dc_wabout rfl (by decide) h4 112 rfl (g_w_about_112 hb ⟨_, R_monitor (hbb_of hb) hW hBn, rfl, rfl, rfl⟩)) (rc fun c => go_tbl [68, 77, 86, 95, 104, 113, 127, 136, 142] 151 9 dc_rabout rfl (by decide) h4 104 rfl (g_r_about_104 ⟨_, R_rmonitor hW (RMs_th hs _) hB, rfl, rfl, rfl⟩))
    by_cases h5 : x = nI 5
    · have en : (σ 0 5).toNat = n := by omega
      have hn3 := hW.n3 hr
      have e5 : ((u2 mi 1 9 (nI 0)) nb 0 + nI 1) / nI 2 = nI ((n + 1) / 2) := by
        rw [hBn.n hn, nI_add]; exact pk_div (by omega) (by decide) (by decide)
      have e6 : u2 mj 48 0 (nI 0) 49 0 = nI (plN (σ 0 6).toNat (σ 0 5).toNat 0) := hB.1 0 (by omega)
      have e7 := pl0 _ (bn_in (hW.bn hr))
      refine Agr.mk (vI (nI ((n + 1) / 2))) 0 (by decide) (wc (by decide) h5 fun c => go_tbl [80, 88, 96, 104, 112, 120, 128, 136] 138 8 dc_wabout rfl (by decide) h5 120 rfl (g_w_about_120 hb ⟨by rw [e5], rfl, rfl⟩)) (rc fun c => go_tbl [68, 77, 86, 95, 104, 113, 127, 136, 142] 151 9 dc_rabout rfl (by decide) h5 113 rfl (g_r_about_113 ⟨_, R_many (Nat.lt_trans (pl_lt _ _ _ (by omega)) (by decide)) e6, ?_, rfl, rfl⟩))
      show some (vI (nI ((n + 1) / 2))) = some (vI (nI (pcN 32 (plN (σ 0 6).toNat (σ 0 5).toNat 0))))
      rw [e7]
      show some (vI (nI ((n + 1) / 2))) = some (vI (nI (((σ 0 5).toNat + 1) / 2)))
      rw [en]
    by_cases h6 : x = nI 6
    · exact Agr.mk (vI (zI (σ 0 13))) 0 (by decide) (wc (by decide) h6 fun c => go_tbl [80, 88, 96, 104, 112, 120, 128, 136] 138 8 dc_wabout rfl (by decide) h6 128 rfl (g_w_about_128 ⟨congrArg (fun z => some (vI z)) I.2.1.2.2.2.2.2.2.1.symm, rfl, rfl⟩)) (rc fun c => go_tbl [68, 77, 86, 95, 104, 113, 127, 136, 142] 151 9 dc_rabout rfl (by decide) h6 127 rfl (g_r_about_127 ⟨congrArg (fun z => some (vI z)) hs.2.2.2.2.2.2.2.2.2.1.symm, rfl, rfl⟩))
    by_cases h7 : x = nI 7
    · exact Agr.mk (vI (nI 0)) 0 (by decide) (wc (by decide) h7 fun c => go_tbl [80, 88, 96, 104, 112, 120, 128, 136] 138 8 dc_wabout rfl (by decide) h7 136 rfl (g_w_about_136 ⟨rfl, rfl, rfl⟩)) (rc fun c => go_tbl [68, 77, 86, 95, 104, 113, 127, 136, 142] 151 9 dc_rabout rfl (by decide) h7 136 rfl (g_r_about_136 ⟨rfl, rfl, rfl⟩))
    by_cases h8 : x = nI 8
    · have hn : ∀ i, i < 8 → x ≠ nI i := by
        intro i hi
        have : i = 0 ∨ i = 1 ∨ i = 2 ∨ i = 3 ∨ i = 4 ∨ i = 5 ∨ i = 6 ∨ i = 7 := by omega
        rcases this with rfl | rfl | rfl | rfl | rfl | rfl | rfl | rfl <;> assumption
      exact Agr.mk (vI (zI (σ 0 14))) 0 (by decide) (wc (by decide) h8 fun c => go_tbld [80, 88, 96, 104, 112, 120, 128, 136] 138 8 dc_wabout rfl (by decide) hn (g_w_about_138 ⟨congrArg (fun z => some (vI z)) I.2.1.2.2.2.2.2.2.2.1.symm, rfl, rfl⟩)) (rc fun c => go_tbl [68, 77, 86, 95, 104, 113, 127, 136, 142] 151 9 dc_rabout rfl (by decide) h8 142 rfl (g_r_about_142 ⟨congrArg (fun z => some (vI z)) hs.2.2.2.2.2.2.2.2.2.2.1.symm, rfl, rfl⟩))
    have hn : ∀ i, i < 9 → x ≠ nI i := by
      intro i hi
      have : i = 0 ∨ i = 1 ∨ i = 2 ∨ i = 3 ∨ i = 4 ∨ i = 5 ∨ i = 6 ∨ i = 7 ∨ i = 8 := by omega
      rcases this with rfl | rfl | rfl | rfl | rfl | rfl | rfl | rfl | rfl <;> assumption
    refine Agr.mk (vI (-(nI 1))) 1 (by decide) (fun c => g_w_about_0 ⟨fun g => absurd g (rd1 I.2.1 hr), fun _ => ⟨fun _ => ⟨rfl, rfl, rfl⟩, fun g => ⟨fun _ => ⟨rfl, rfl, rfl⟩, fun g2 => ?_⟩⟩⟩) (rc fun c => go_tbld [68, 77, 86, 95, 104, 113, 127, 136, 142] 151 9 dc_rabout rfl (by decide) hn (g_r_about_151 ⟨rfl, rfl, rfl⟩))
    exfalso
    obtain ⟨k, hk, ek⟩ := nI_of g
    rw [ek, nI_ltI (by decide) hk] at g2
    exact hn k (by omega) ek
  · exact Agr.mk (vI (-(nI 1))) 1 (by decide) (fun c => g_w_about_0 ⟨fun _ => ⟨rfl, rfl, rfl⟩, fun g => absurd (rd0 I.2.1 hr hW) g⟩) (fun c => g_r_about_0 ⟨fun g => absurd (rf0 hs hr hW) g, fun _ => ⟨rfl, rfl, rfl⟩⟩)
end
