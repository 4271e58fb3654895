/-! ===== bench, the whole call ===== -/
theorem u2_sw (f : MR) (p q x y u v : RX) : u2 (u2 (u2 (u2 (u2 (u2 f 1 7 u) 4 2 v) 4 3 p) 35 4 q) 1 7 x) 4 2 y = u2 (u2 (u2 (u2 f 1 7 x) 4 2 y) 4 3 p) 35 4 q := by
  funext a k
  simp only [u2_if]
  by_cases h1 : a = 4 ∧ k = 2
  · obtain ⟨rfl, rfl⟩ := h1; simp
  · by_cases h2 : a = 1 ∧ k = 7
    · obtain ⟨rfl, rfl⟩ := h2; simp
    · simp only [if_neg h1, if_neg h2]
theorem MRc_sw {nb db x y : Nat} {by_ rs : RX} : u2 (u2 (MRc nb db by_ rs) 1 7 (some (13, 0, x))) 4 2 (some (13, 0, y)) = MRc x y by_ rs := u2_sw _ _ _ _ _ _ _
/-- the class's memory before its table is built; where a text has a fault; the reference's before it reads -/
abbrev MB (m : MI) : MI := u2 (u2 (u2 (u2 (u2 (u2 (u2 (u2 (u2 (u2 m 2 1 (nI 0)) 1 10 (m 4 0)) 1 11 (m 4 1)) 1 9 (nI 0)) 1 8 (nI 1)) 11 0 (nI 0)) 11 1 (nI 0)) 11 2 (nI 0)) 11 3 (nI 0)) 39 0 (nI 0)
abbrev MF (m : MI) : MI := u2 (u2 (u2 (u2 m 2 1 (nI 0)) 1 10 (m 4 0)) 1 11 (m 4 1)) 1 9 (nI 4)
abbrev PR (x : Int32) (m : MI) : MI := u2 (u2 (u2 (u2 (u2 m 48 0 (nI 0)) 48 33 x) 48 32 (nI 0)) 48 34 (nI 0)) 48 38 (nI 0)
theorem PR_o {x : Int32} {m : MI} {z : Nat} (h : z ≠ 48) : PR x m z = m z := by unfold PR; rw [u2_o _ _ h, u2_o _ _ h, u2_o _ _ h, u2_o _ _ h, u2_o _ _ h]
theorem PR_k {x : Int32} {m : MI} {k : Nat} (h0 : k ≠ 0) (h1 : k ≠ 33) (h2 : k ≠ 32) (h3 : k ≠ 34) (h4 : k ≠ 38) : PR x m 48 k = m 48 k := by unfold PR; rw [u2_ne2 _ _ (Or.inr h4), u2_ne2 _ _ (Or.inr h3), u2_ne2 _ _ (Or.inr h2), u2_ne2 _ _ (Or.inr h1), u2_ne2 _ _ (Or.inr h0)]
theorem PR_z {x : Int32} {m : MI} : PR x m 48 33 = x ∧ PR x m 48 32 = nI 0 ∧ PR x m 48 34 = nI 0 ∧ PR x m 48 38 = nI 0 := by
  refine ⟨?_, ?_, ?_, ?_⟩ <;> simp [PR, u2_if]
theorem MB_o {m : MI} {z : Nat} (h1 : z ≠ 1) (h2 : z ≠ 2) (h3 : z ≠ 11) (h4 : z ≠ 39) : MB m z = m z := by unfold MB; rw [u2_o _ _ h4, u2_o _ _ h3, u2_o _ _ h3, u2_o _ _ h3, u2_o _ _ h3, u2_o _ _ h1, u2_o _ _ h1, u2_o _ _ h1, u2_o _ _ h1, u2_o _ _ h2]
theorem MB_v {m : MI} : MB m 1 8 = nI 1 ∧ MB m 1 9 = nI 0 ∧ MB m 1 10 = m 4 0 ∧ MB m 2 1 = nI 0 ∧ MB m 11 0 = nI 0 ∧ MB m 11 1 = nI 0 ∧ MB m 11 2 = nI 0 ∧ MB m 11 3 = nI 0 ∧ MB m 39 0 = nI 0 := by
  refine ⟨?_, ?_, ?_, ?_, ?_, ?_, ?_, ?_, ?_⟩ <;> simp [MB, u2_if]
theorem MF_o {m : MI} {z : Nat} (h1 : z ≠ 1) (h2 : z ≠ 2) : MF m z = m z := by unfold MF; rw [u2_o _ _ h1, u2_o _ _ h1, u2_o _ _ h1, u2_o _ _ h2]
theorem MF_v {m : MI} : MF m 1 8 = m 1 8 ∧ MF m 1 9 = nI 4 ∧ MF m 1 10 = m 4 0 ∧ MF m 1 11 = m 4 1 ∧ MF m 2 1 = nI 0 := by
  refine ⟨?_, ?_, ?_, ?_, ?_⟩ <;> simp [MF, u2_if]
theorem by255 : ∀ n, n < 256 → (nI n).toInt8.toInt32 &&& nI 255 = nI n := by decide +kernel
theorem zI_in {a b : Int} (h : zI a = zI b) (ha : 0 ≤ a ∧ a < 2147483648) (hb : 0 ≤ b ∧ b < 2147483648) : a = b := by
  have e := congrArg Int32.toInt h
  rw [zI_toInt ⟨by omega, by omega⟩, zI_toInt ⟨by omega, by omega⟩] at e
  exact e
section
variable {nb db nc dc : Nat} {by_ rs : RX} {c : Nat} {mi mj m0 : MI} {ml mk : ML} {t : Nat → Nat} {e : Nat} {r0 x : Int32}
theorem wb_bad (h : x < 0 ∨ ¬ x ≤ mi 2 1) : Ret m_w_bench [vR 10 0 1, vI x] (some (vI (-(nI 1)))) c (MRc nb db by_ rs) mi ml (u2 mi 1 9 (nI 2)) ml := by
  intro Q hQ
  refine ok_wq inlT 400 rfl rfl ?_
  refine ⟨fun g => ?_, fun g => ?_⟩
  · refine ⟨fun _ => ?_, fun g => absurd g (by decide)⟩
    refine ⟨Or.inl rfl, ?_⟩
    exact hQ
  · refine ⟨fun g2 => absurd g2 (h.resolve_left g), fun _ => ?_⟩
    refine ⟨fun _ => ?_, fun g => absurd g (by decide)⟩
    refine ⟨Or.inl rfl, ?_⟩
    exact hQ
theorem wb_ok {Q : Option AV → HP} {B0 B1 : MI → ML → Prop} (hb : nb = 43 ∧ db = 5 ∨ nb = 5 ∧ db = 43) (hx0 : ¬ x < 0) (hx1 : x ≤ mi 2 1)
    (OR : Ok m_rd_readAll 0 0 [vR 12 0 4, vR 0 800 3, vI x] (fun r c' mr' m' l' => c' = c ∧ mr' = MRc nb db (some (0, 800, 3)) rs ∧ ((r = some (vI (nI 0)) ∧ B0 m' l') ∨ (r = some (vI (nI 1)) ∧ B1 m' l'))) c (MRc nb db by_ rs) mi ml)
    (H0 : ∀ m' l', B0 m' l' → Q (some (vI (-(nI 1)))) c (MRc nb db (some (0, 800, 3)) rs) (MF m') l')
    (H1 : ∀ m' l', B1 m' l' → ∃ m2 l2, Ret m_mt_build [vR 16 0 19, vR 13 0 db] none c (MRc db nb (some (0, 800, 3)) rs) (MB m') l' m2 l2 ∧ Q (some (vI (m2 db 0))) c (MRc db nb (some (0, 800, 3)) rs) (u2 m2 35 0 (nI 0)) l2) :
    Ok m_w_bench 0 0 [vR 10 0 1, vI x] Q c (MRc nb db by_ rs) mi ml := by
  rcases hb with ⟨rfl, rfl⟩ | ⟨rfl, rfl⟩
  all_goals
    refine ok_wq inlT 400 rfl rfl ?_
    refine ⟨fun g => absurd g hx0, fun _ => ?_⟩
    refine ⟨fun _ => ?_, fun g => absurd hx1 g⟩
    refine ⟨0, 0, Nat.zero_le _, Nat.zero_le _, ?_⟩
    refine OR.mono (fun r c' mr' m' l' h => ?_)
    obtain ⟨ec, em, h⟩ := h
    subst ec em
    rcases h with ⟨er, h0⟩ | ⟨er, h1⟩
    · subst er
      refine ⟨fun _ => ?_, fun g => absurd rfl g⟩
      refine ⟨fun _ => ?_, fun g => absurd g (by decide)⟩
      refine ⟨Or.inl rfl, ?_⟩
      refine ⟨fun g => absurd rfl g, fun _ => ?_⟩
      exact H0 _ _ h0
    · subst er
      obtain ⟨m2, l2, B, q⟩ := H1 _ _ h1
      refine ⟨fun g => absurd g (by decide), fun _ => ?_⟩
      refine ⟨fun g => absurd rfl g, fun _ => ?_⟩
      refine ⟨Or.inr rfl, ?_⟩
      refine ⟨fun _ => ?_, fun g => absurd g (by decide)⟩
      refine ⟨Or.inr rfl, ?_⟩
      refine ⟨Or.inl rfl, ?_⟩
      rw [← MRc_sw (nb := _) (db := _)] at B q
      refine ⟨0, 0, Nat.zero_le _, Nat.zero_le _, B _ ?_⟩
      refine ⟨Or.inl rfl, ?_⟩
      exact q
theorem RD_ag {as : List AV} {m m2 : MI} {l l2 : ML} (hb : nb = 43 ∧ db = 5 ∨ nb = 5 ∧ db = 43) (h4 : vR 12 0 4 ∈ as) (G : ∀ ro n a, (vR ro n a ∈ as ∨ ∃ a' k, MRc nb db by_ rs a' k = some (ro, n, a)) → ro < 20 → agC ro n a m m2 l l2) :
    (m 4 0 = m2 4 0 ∧ m 4 1 = m2 4 1) ∧ (∀ k, k < 8 → m db k = m2 db k) ∧ (∀ k, k < 31 → m (db + 1) k = m2 (db + 1) k) ∧ (∀ k, k < 31 → m (db + 2) k = m2 (db + 2) k) ∧ (∀ k, k < 31 → m (db + 3) k = m2 (db + 3) k) ∧ ∀ k, k < 12 → m (db + 4) k = m2 (db + 4) k := by
  have g4 := (G 12 0 4 (Or.inl h4) (by decide)).2.2 2 rfl
  have f3 : ∀ k, k < 8 → fk 3 k = 0 := by decide
  have c3 : clN 3 = 12 := rfl
  have gb := (G 13 0 db (Or.inr ⟨4, 2, rfl⟩) (by decide)).2.2 3 rfl
  have gb1 : agC 0 31 (db + 1) m m2 l l2 := by rcases hb with ⟨rfl, rfl⟩ | ⟨rfl, rfl⟩; exact G 0 31 6 (Or.inr ⟨5, 8, rfl⟩) (by decide); exact G 0 31 44 (Or.inr ⟨43, 8, rfl⟩) (by decide)
  have gb2 : agC 0 31 (db + 2) m m2 l l2 := by rcases hb with ⟨rfl, rfl⟩ | ⟨rfl, rfl⟩; exact G 0 31 7 (Or.inr ⟨5, 9, rfl⟩) (by decide); exact G 0 31 45 (Or.inr ⟨43, 9, rfl⟩) (by decide)
  have gb3 : agC 0 31 (db + 3) m m2 l l2 := by rcases hb with ⟨rfl, rfl⟩ | ⟨rfl, rfl⟩; exact G 0 31 8 (Or.inr ⟨5, 10, rfl⟩) (by decide); exact G 0 31 46 (Or.inr ⟨43, 10, rfl⟩) (by decide)
  have gb4 : agC 0 12 (db + 4) m m2 l l2 := by rcases hb with ⟨rfl, rfl⟩ | ⟨rfl, rfl⟩; exact G 0 12 9 (Or.inr ⟨5, 11, rfl⟩) (by decide); exact G 0 12 47 (Or.inr ⟨43, 11, rfl⟩) (by decide)
  exact ⟨⟨(g4 0 (by decide)).1 (Or.inl rfl), (g4 1 (by decide)).1 (Or.inl rfl)⟩, fun k hk => (gb k (by omega)).1 (Or.inl (f3 k hk)), gb1.1 rfl, gb2.1 rfl, gb3.1 rfl, gb4.1 rfl⟩
def RAf (db : Nat) (r : Int32) (m mj' : MI) : Prop := (r = nI 1 ∧ ∃ (γ : SG) (lit nsy : Nat), γ 0 0 = 1 ∧ PW γ lit nsy ∧ RCb γ db m ∧ PDr γ lit nsy mj' ∧ mj' 48 38 = nI 0 ∧ m 4 0 = nI 0) ∨ (r = nI 0 ∧ ∃ f a', DD f a' m mj')
theorem RD_pair (hb : nb = 43 ∧ db = 5 ∨ nb = 5 ∧ db = 43) (he : e ≤ 800) (ht : ∀ k, t k ≤ 255) (hx : x = nI e) (T3 : ∀ k, k < e → mi 3 k = nI (t k)) (C0 : RetM m_rd_readAll [vR 12 0 4, vR 0 800 3, vI x] (some (vI r0)) c (MRc nb db by_ rs) mi ml (MRc nb db (some (0, 800, 3)) rs) m0 ml) (T7 : ∀ k, k < e → mj 57 k &&& nI 255 = nI (t k)) (h33 : mj 48 33 = nI e) (h34 : mj 48 34 = nI 0) (h38 : mj 48 38 = nI 0) :
    Ok m_rd_readAll 0 0 [vR 12 0 4, vR 0 800 3, vI x] (fun r c' mr' m' l' => c' = c ∧ mr' = MRc nb db (some (0, 800, 3)) rs ∧ m' = m0 ∧ l' = ml ∧ r = some (vI r0) ∧ ∃ mj' mk', Ret m_r_readAll [vR 19 0 48] none c (MRc nc dc (some (0, 800, 3)) rs) mj mk mj' mk' ∧ FLr mj mj' mk mk' ∧ RAf db r0 m0 mj') c (MRc nb db by_ rs) mi ml := by
  obtain ⟨r1, m1, mj', mk', C1, D1, -, g1, E1⟩ := RD_J (nc := nc) (dc := dc) (by_ := by_) (c := c) (rs := rs) (ml := ml) (mk := mk) hb he ht hx T3 T7 h33 h34 h38
  have T := Ok.two (C0 (fun r c' mr' m' l' => r = some (vI r0) ∧ c' = c ∧ mr' = MRc nb db (some (0, 800, 3)) rs ∧ m' = m0 ∧ l' = ml) ⟨rfl, rfl, rfl, rfl, rfl⟩) (C1 (fun r c' mr' m' l' => r = some (vI r1) ∧ m' = m1 ∧ l' = ml) ⟨rfl, rfl, rfl⟩)
  refine T.mono (fun r c' mr' m' l' h => ?_)
  obtain ⟨⟨er, ec, em, e1, e2⟩, r2, c2, mr2, m2, l2, ⟨er2, e3, e4⟩, hv, hag⟩ := h
  rw [e1, e2, e3, e4] at hag
  have ev : r0 = r1 := Sum.inl.inj (hv (vI r0) (vI r1) er er2 rfl rfl)
  subst ev
  refine ⟨ec, em, e1, e2, er, mj', mk', D1, g1, ?_⟩
  obtain ⟨⟨a0, a1⟩, b0, b1, b2, b3, b4⟩ := RD_ag hb List.mem_cons_self hag
  rcases E1 with ⟨er1, γ, lit, nsy, hr, W, P, R, h38', h40⟩ | ⟨er1, f, a', d1, d2, d3, d4⟩
  · refine Or.inl ⟨er1, γ, lit, nsy, hr, W, ?_, R, h38', by rw [a0]; exact h40⟩
    have hnn := W.1.nn
    have hms := W.1.ms
    obtain ⟨q0, q1, q2, q3, q4, q5, q6, q7, q8, q9, q10, q11⟩ := P.1
    exact ⟨by rw [b0 0 (by decide)]; exact q0, by rw [b0 1 (by decide)]; exact q1, by rw [b0 2 (by decide)]; exact q2, by rw [b0 3 (by decide)]; exact q3, by rw [b0 4 (by decide)]; exact q4, by rw [b0 5 (by decide)]; exact q5, by rw [b0 6 (by decide)]; exact q6, by rw [b0 7 (by decide)]; exact q7, fun i hi => by rw [b1 i (by omega)]; exact q8 i hi, fun i hi => by rw [b2 i (by omega)]; exact q9 i hi, fun i hi => by rw [b3 i (by omega)]; exact q10 i hi, fun i hi => by rw [b4 i (by omega)]; exact q11 i hi⟩
  · exact Or.inr ⟨er1, f, a', by rw [a0]; exact d1, by rw [a1]; exact d2, d3, d4⟩
end
