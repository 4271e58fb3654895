/-! ===== masks: rows with and without what is looked at; sums; the row of a colour ===== -/
theorem vm_T {μ : Nat → Nat} {T : Nat → Int} {i q : Nat} (h : q < 43) : vm μ T i q = vm μ z0 i q := by
  unfold vm
  by_cases h1 : q < 31
  · rw [if_pos h1, if_pos h1]
  · rw [if_neg h1, if_neg h1, if_pos h, if_pos h]
theorem dt_T {μ : Nat → Nat} {T : Nat → Int} (ms l : List Nat) (h : ∀ q ∈ l, q < 43) : dt (ms.map (vm μ T)) l = dt (ms.map (vm μ z0)) l :=
  dt_cg (P := fun q => q < 43) _ _ l (cgV_map (P := fun q => q < 43) (f := vm μ T) (g := vm μ z0) (fun i q hq => vm_T hq) ms) h
theorem NW_T {μ : Nat → Nat} {T : Nat → Int} {i c : Nat} (ms ps : List Nat) (h : ∀ q ∈ ps, q < 43) (hc : c < 43) : NW (vm μ T i) (ms.map (vm μ T)) ps c = NW (vm μ z0 i) (ms.map (vm μ z0)) ps c := by
  unfold NW
  rw [dt_T ms ps h]
  have := dt_T (μ := μ) (T := T) (i :: ms) (c :: ps) (fun q hq => by
    rcases List.mem_cons.mp hq with e | e
    · rw [e]; exact hc
    · exact h q e)
  rw [List.map_cons, List.map_cons] at this
  rw [this]
theorem fsO_cg {p p' : Nat → Bool} : ∀ d j, (∀ k, j ≤ k → k < j + d → p k = p' k) → fsO p d j = fsO p' d j
  | 0, _, _ => rfl
  | d + 1, j, h => by
    show (if p j = true then some j else fsO p d (j + 1)) = (if p' j = true then some j else fsO p' d (j + 1))
    rw [h j (by omega) (by omega), fsO_cg d (j + 1) (fun k h1 h2 => h k (by omega) (by omega))]
theorem pvD_T {μ : Nat → Nat} {T : Nat → Int} {i : Nat} {q : List Nat × List Nat} (h : ∀ x ∈ q.2, x < 43) : pvD μ T i q = pvD μ z0 i q := by
  unfold pvD
  exact fsO_cg 31 0 (fun k _ hk => by
    show decide (NW (vm μ T i) (q.1.map (vm μ T)) q.2 k ≠ 0) = decide (NW (vm μ z0 i) (q.1.map (vm μ z0)) q.2 k ≠ 0)
    rw [NW_T q.1 q.2 h (show k < 43 by omega)])
theorem mS_T (μ : Nat → Nat) (T : Nat → Int) : ∀ i, mS μ T i = mS μ z0 i
  | 0 => rfl
  | i + 1 => by
    show (match pvD μ T i (mS μ T i) with | none => mS μ T i | some p => (i :: (mS μ T i).1, p :: (mS μ T i).2)) = (match pvD μ z0 i (mS μ z0 i) with | none => mS μ z0 i | some p => (i :: (mS μ z0 i).1, p :: (mS μ z0 i).2))
    rw [mS_T μ T i, pvD_T (ps43 (μ := μ) (i := i))]
theorem pvO_T {μ : Nat → Nat} {T : Nat → Int} {i : Nat} : pvO μ T i = pvO μ z0 i := by
  unfold pvO
  rw [mS_T μ T i]
  exact pvD_T (ps43 (μ := μ) (i := i))
theorem psS_T {μ : Nat → Nat} {T : Nat → Int} {i : Nat} : psS μ T i = psS μ z0 i := by unfold psS; rw [mS_T]
theorem vsS_T {μ : Nat → Nat} {T : Nat → Int} {i : Nat} : vsS μ T i = (mS μ z0 i).1.map (vm μ T) := by unfold vsS; rw [mS_T]
theorem SS_T {μ : Nat → Nat} {T : Nat → Int} {i : Nat} : SS (vsS μ T i) (psS μ T i) = SS (vsS μ z0 i) (psS μ z0 i) := by
  rw [psS_T, vsS_T]
  unfold SS
  rw [dt_T _ _ ps43]; rfl
theorem set43 {ps : List Nat} (h : ∀ q ∈ ps, q < 43) {k c : Nat} (hc : c < 43) : ∀ q ∈ ps.set k c, q < 43 := fun q hq => by
  rcases List.mem_or_eq_of_mem_set hq with e | e
  · exact h q e
  · rw [e]; exact hc
theorem XX_T {μ : Nat → Nat} {T : Nat → Int} {i t c : Nat} (hc : c < 43) : XX (vsS μ T i) (psS μ T i) t c = XX (vsS μ z0 i) (psS μ z0 i) t c := by
  rw [psS_T, vsS_T]
  unfold XX
  rw [dt_T _ _ ps43, dt_T _ _ (set43 ps43 hc)]; rfl
theorem sumZ_dl {T : Nat → Int} {q : Nat} : ∀ K, sumZ (fun m => (if 31 + m = 31 + q then (1 : Int) else 0) * T m) K = if q < K then T q else 0
  | 0 => by rw [if_neg (Nat.not_lt_zero q)]; rfl
  | K + 1 => by
    show sumZ (fun m => (if 31 + m = 31 + q then (1 : Int) else 0) * T m) K + (if 31 + K = 31 + q then (1 : Int) else 0) * T K = _
    rw [sumZ_dl K]
    by_cases e : K = q
    · rw [if_pos (show 31 + K = 31 + q by omega), if_neg (by omega), if_pos (by omega), e]; omega
    · rw [if_neg (show ¬ 31 + K = 31 + q by omega)]
      by_cases g : q < K
      · rw [if_pos g, if_pos (by omega)]; omega
      · rw [if_neg g, if_neg (by omega)]; omega
theorem vm_43 {μ : Nat → Nat} {T : Nat → Int} {q K : Nat} (hq : q < K) (hK : K ≤ 12) : vm μ T q 43 = sumZ (fun m => vm μ T q (31 + m) * T m) K := by
  have e : sumZ (fun m => vm μ T q (31 + m) * T m) K = sumZ (fun m => (if 31 + m = 31 + q then (1 : Int) else 0) * T m) K := sumZ_e2 _ _ K (fun m hm => by
    show vm μ T q (31 + m) * T m = _
    unfold vm
    rw [if_neg (by omega), if_pos (by omega)])
  rw [e, sumZ_dl, if_pos hq]
  rfl
theorem XX_43 {μ : Nat → Nat} {T : Nat → Int} {K t : Nat} (hK : K ≤ 12) (ht : t < rk μ K) : XX (vsS μ T K) (psS μ T K) t 43 = sumZ (fun m => XX (vsS μ z0 K) (psS μ z0 K) t (31 + m) * T m) K := by
  rw [sumZ_e2 (fun m => XX (vsS μ z0 K) (psS μ z0 K) t (31 + m) * T m) (fun m => XX (vsS μ T K) (psS μ T K) t (31 + m) * T m) K (fun m hm => by
    show _ = XX (vsS μ T K) (psS μ T K) t (31 + m) * T m
    rw [XX_T (T := T) (show 31 + m < 43 by omega)])]
  have hl : (psS μ T K).length - 1 - t < (psS μ T K).length := by rw [psS_T]; unfold rk at ht; omega
  obtain ⟨l1, l2, e1, e2, e3⟩ := set_at (psS μ T K) ((psS μ T K).length - 1 - t) hl
  have hs := Sp_sum (G := fun c => dt (vsS μ T K) (l1 ++ c :: l2)) (q := 43) (n := K) (T := T) (o := 31) (Sp_dt (vsS μ T K) l1 l2) (fun v hv => by
    obtain ⟨q, hq, rfl⟩ := List.mem_map.mp hv
    exact vm_43 (by have := (mS_ok μ T K).2.2.2.2 q hq; omega) hK)
  have e4 : ∀ c, XX (vsS μ T K) (psS μ T K) t c = (dt (vsS μ T K) (psS μ T K)).sign * dt (vsS μ T K) (l1 ++ c :: l2) := fun c => by unfold XX; rw [e3]
  have hs : dt (vsS μ T K) (l1 ++ 43 :: l2) = sumZ (fun m => dt (vsS μ T K) (l1 ++ (31 + m) :: l2) * T m) K := hs
  rw [e4, hs, sumZ_m2]
  exact sumZ_e2 _ _ K (fun m _ => by
    show _ = XX (vsS μ T K) (psS μ T K) t (31 + m) * T m
    rw [e4]; grind)
theorem NW_43 {μ : Nat → Nat} {T : Nat → Int} {K q : Nat} (hK : K ≤ 12) (hq : q < K) : NW (vm μ T q) (vsS μ T q) (psS μ T q) 43 = sumZ (fun m => NW (vm μ z0 q) (vsS μ z0 q) (psS μ z0 q) (31 + m) * T m) K := by
  have eT : ∀ c, c < 43 → NW (vm μ T q) (vsS μ T q) (psS μ T q) c = NW (vm μ z0 q) (vsS μ z0 q) (psS μ z0 q) c := fun c hc => by
    rw [psS_T, vsS_T]; exact NW_T _ _ ps43 hc
  rw [sumZ_e2 (fun m => NW (vm μ z0 q) (vsS μ z0 q) (psS μ z0 q) (31 + m) * T m) (fun m => NW (vm μ T q) (vsS μ T q) (psS μ T q) (31 + m) * T m) K (fun m hm => by
    show _ = NW (vm μ T q) (vsS μ T q) (psS μ T q) (31 + m) * T m
    rw [eT (31 + m) (by omega)])]
  have hs := Sp_sum (G := fun c => dt (vm μ T q :: vsS μ T q) (c :: psS μ T q)) (q := 43) (n := K) (T := T) (o := 31) (Sp_dt (vm μ T q :: vsS μ T q) [] (psS μ T q)) (fun v hv => by
    rcases List.mem_cons.mp hv with e | e
    · rw [e]; exact vm_43 hq hK
    · obtain ⟨q', hq', rfl⟩ := List.mem_map.mp e
      exact vm_43 (by have := (mS_ok μ T q).2.2.2.2 q' hq'; omega) hK)
  have hs : dt (vm μ T q :: vsS μ T q) (43 :: psS μ T q) = sumZ (fun m => dt (vm μ T q :: vsS μ T q) ((31 + m) :: psS μ T q) * T m) K := hs
  have e4 : ∀ c, NW (vm μ T q) (vsS μ T q) (psS μ T q) c = (dt (vsS μ T q) (psS μ T q)).sign * dt (vm μ T q :: vsS μ T q) (c :: psS μ T q) := fun _ => rfl
  rw [e4, hs, sumZ_m2]
  exact sumZ_e2 _ _ K (fun m _ => by
    show _ = NW (vm μ T q) (vsS μ T q) (psS μ T q) (31 + m) * T m
    rw [e4]; grind)
/-- pivots are apart -/
theorem PT_inj {μ : Nat → Nat} {K t u : Nat} (ht : t < rk μ K) (hu : u < rk μ K) (h : PT (psS μ z0 K) t = PT (psS μ z0 K) u) : t = u := by
  refine Classical.byContradiction fun hne => ?_
  have h1 := XX_self (vs := vsS μ z0 K) (ps := psS μ z0 K) ht
  rw [h, XX_other ht hu hne] at h1
  have := SS_pos (Piv_ne (mS_ok μ z0 K).1)
  omega
theorem pv_inj {μ : Nat → Nat} {K q q' j : Nat} (hq : q < K) (hq' : q' < K) (h : pvO μ z0 q = some j) (h' : pvO μ z0 q' = some j) : q = q' := by
  have e := PT_inj (rk_lt hq h) (rk_lt hq' h') ((PT_rk K hq h).trans (PT_rk K hq' h').symm)
  rcases Nat.lt_trichotomy q q' with g | g | g
  · have := rk_lt g h; omega
  · exact g
  · have := rk_lt g h'; omega
section
variable {nb db b : Nat} {by_ rs : RX} {c : Nat} {σ : SG} {mi mj m : MI} {ml mk : ML} {μ : Nat → Nat} {T : Nat → Int} {i K N : Nat}
/-- the class: a row's looks together -/
theorem R_sumOf (hbb : b = 43 ∨ b = 5) (hW : WF σ) (hB : RCb σ b mi) (h4 : mi b 4 = nI K) (hK : K ≤ 12) (hm : ∀ q, q < K → mi (b + 4) q = nI (μ q)) (hμ : ∀ q, q < K → μ q < 2 ^ 31) {q : Nat} (hq : q < 12) {F : Nat → Int} (hF : ∀ k, k < K → ml (22 + q) (31 + k) = zL (F k)) {x : Int32} (hx : x = nI q) : Ret m_mt_sumOfLooks [vR 16 0 19, vR 13 0 b, vI x] (some (vL (zL (sumZ (fun k => F k * thr σ (μ k)) K)))) c (MRc nb db by_ rs) mi ml mi ml := by
  have nx0 : ¬ x < 0 := by rw [hx]; exact fun g => absurd ((nI_ltI (by omega) (by decide)).mp (show nI q < nI 0 from g)) (by omega)
  have nx12 : ¬ nI 12 ≤ x := by rw [hx, nI_leN (by decide) (by omega)]; omega
  refine g_mt_sumOfLooks_0 hbb ?_
  have key : ∀ j, j ≤ K → ∀ (k : Int32) (a : Int64), k = nI j → a = zL (sumZ (fun k => F k * thr σ (μ k)) j) → Go m_mt_sumOfLooks 5 [some (vR 16 0 19), some (vR 13 0 b), some (vI x), some (vL a), none, some (vI k)] [] (some (vL (zL (sumZ (fun k => F k * thr σ (μ k)) K)))) c (MRc nb db by_ rs) mi ml mi ml := by
    refine upto ?_ ?_
    · intro k a hk ha
      exact g_mt_sumOfLooks_5 hbb ⟨fun _ => ⟨by rw [ha], rfl, rfl⟩, fun g => absurd (lp_d h4 hk) g⟩
    · intro j hj ih k a hk ha
      have nk0 : ¬ k < 0 := by rw [hk]; exact fun g => absurd ((nI_ltI (by omega) (by decide)).mp (show nI j < nI 0 from g)) (by omega)
      have k12 : k < nI 12 := by rw [hk, nI_ltI (by omega) (by decide)]; omega
      have e31 : nI 31 + k = nI (31 + j) := by rw [hk, nI_add]
      have ck : k.toNatClampNeg = j := cln hk (by omega)
      have hr := R_readOf (nb := nb) (db := db) (by_ := by_) (rs := rs) (c := c) (ml := ml) (x := mi (b + 4) k.toNatClampNeg) hbb hW hB (hμ j hj) (by rw [ck, hm j hj])
      have htb := thr_bd hW (μ j)
      refine g_mt_sumOfLooks_5 hbb ⟨fun g => absurd g (lp_g h4 hk hj (by omega)), fun _ => ⟨fun g => absurd g nx0, fun _ => ⟨fun g => absurd g nx12, fun _ => ⟨fun g => absurd g nk0, fun _ => ⟨fun _ => ⟨q, hx, hq, ixn e31 (by omega) (by decide), ixn hk (by omega) (by decide), _, hr, ih _ _ (inc hk) ?_⟩, fun g => absurd k12 g⟩⟩⟩⟩⟩
      rw [cln e31 (by omega), hF j hj, hB.2.2.1, zI_sub, ha, show σ 0 7 + thr σ (μ j) - σ 0 7 = thr σ (μ j) by omega, zI_l ⟨by omega, by omega⟩, zL_mul, zL_add]
      rfl
  exact key 0 (Nat.zero_le _) _ _ rfl rfl
theorem R_squares (hbb : b = 43 ∨ b = 5) (h4 : mi b 4 = nI K) (hK : K ≤ 12) {q : Nat} (hq : q < 12) {F : Nat → Int} (hF : ∀ k, k < K → ml (22 + q) (31 + k) = zL (F k)) {x : Int32} (hx : x = nI q) : Ret m_mt_squares [vR 16 0 19, vR 13 0 b, vI x] (some (vL (zL (sumZ (fun k => F k * F k) K)))) c (MRc nb db by_ rs) mi ml mi ml := by
  have nx0 : ¬ x < 0 := by rw [hx]; exact fun g => absurd ((nI_ltI (by omega) (by decide)).mp (show nI q < nI 0 from g)) (by omega)
  have nx12 : ¬ nI 12 ≤ x := by rw [hx, nI_leN (by decide) (by omega)]; omega
  refine g_mt_squares_0 hbb ?_
  have key : ∀ j, j ≤ K → ∀ (k : Int32) (a : Int64), k = nI j → a = zL (sumZ (fun k => F k * F k) j) → Go m_mt_squares 5 [some (vR 16 0 19), some (vR 13 0 b), some (vI x), some (vL a), none, some (vI k)] [] (some (vL (zL (sumZ (fun k => F k * F k) K)))) c (MRc nb db by_ rs) mi ml mi ml := by
    refine upto ?_ ?_
    · intro k a hk ha
      exact g_mt_squares_5 hbb ⟨fun _ => ⟨by rw [ha], rfl, rfl⟩, fun g => absurd (lp_d h4 hk) g⟩
    · intro j hj ih k a hk ha
      have nk0 : ¬ k < 0 := by rw [hk]; exact fun g => absurd ((nI_ltI (by omega) (by decide)).mp (show nI j < nI 0 from g)) (by omega)
      have k12 : k < nI 12 := by rw [hk, nI_ltI (by omega) (by decide)]; omega
      have e31 : nI 31 + k = nI (31 + j) := by rw [hk, nI_add]
      have v31 : vp_in (nI 31 + k) 43 := ixn e31 (by omega) (by decide)
      refine g_mt_squares_5 hbb ⟨fun g => absurd g (lp_g h4 hk hj (by omega)), fun _ => ⟨fun g => absurd g nx0, fun _ => ⟨fun g => absurd g nx12, fun _ => ⟨fun g => absurd g nk0, fun _ => ⟨fun _ => ⟨q, hx, hq, v31, fun g => absurd g nx0, fun _ => ⟨fun g => absurd g nx12, fun _ => ⟨fun g => absurd g nk0, fun _ => ⟨fun _ => ⟨q, hx, hq, v31, ih _ _ (inc hk) ?_⟩, fun g => absurd k12 g⟩⟩⟩⟩, fun g => absurd k12 g⟩⟩⟩⟩⟩
      rw [cln e31 (by omega), hF j hj, ha, zL_mul, zL_add]
      rfl
  exact key 0 (Nat.zero_le _) _ _ rfl rfl
end
