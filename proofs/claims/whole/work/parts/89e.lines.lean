/-! ===== what was read so far ===== -/
def stB (γ : SG) : Nat := opB γ ||| shB γ
def PDc (γ : SG) (lit nsy db : Nat) (m : MI) : Prop := RCb γ db m ∧ (∀ k, k < 31 → m (db + 2) k = zI (γ 1 k) ∧ m (db + 3) k = zI (γ 3 k)) ∧ m 4 10 = nI lit ∧ m 4 11 = nI nsy
def PDr (γ : SG) (lit nsy : Nat) (m : MI) : Prop := m 48 13 = zI (γ 0 5) ∧ (γ 0 0 = 1 → m 48 14 = zI (γ 0 6) ∧ m 48 15 = zI (γ 0 7) ∧ m 48 16 = zI (γ 0 8)) ∧ m 48 17 = zI (γ 0 9) ∧ m 48 18 = nI (pcN 32 (stB γ)) ∧ m 48 19 = nI (pcN 32 nsy) ∧ m 48 20 = nI (pcN 32 (loB γ)) ∧ m 48 21 = nI lit ∧ m 48 22 = nI (stB γ) ∧ m 48 23 = nI nsy
  ∧ (∀ k, k < 31 → m 52 k = zI (γ 3 k)) ∧ (∀ i : Nat, (i : Int) < γ 0 9 → m 53 i = zI (γ 4 i)) ∧ (∀ k, k < 31 → m 55 k = zI (γ 1 k) ∧ m 55 (31 + k) = zI (γ 2 k)) ∧ m 55 62 = zI (γ 0 10)
def PW (γ : SG) (lit nsy : Nat) : Prop := WF γ ∧ (γ 0 1 = 0 ∧ γ 0 2 = 0 ∧ γ 0 4 = 0 ∧ γ 0 11 = 0 ∧ γ 0 12 = 0 ∧ γ 0 13 = 0 ∧ γ 0 14 = 0 ∧ γ 0 15 = 0) ∧ (γ 0 0 = 0 → γ = (fun _ _ => 0) ∧ lit = 0 ∧ nsy = 0) ∧ lit < 2 ^ 31 ∧ nsy < 2 ^ 31 ∧ pcN 32 (stB γ) ≤ 3 ∧ pcN 32 nsy ≤ 8 ∧ pcN 32 (loB γ) ≤ 3
/-- frames of a line -/
def FLc (db : Nat) (m m' : MI) : Prop := (∀ b, b ≠ 4 → b < db ∨ db + 4 < b → m' b = m b) ∧ m' 4 4 = m 4 4
def FLr (m m' : MI) (l l' : ML) : Prop := (∀ b, b ≠ 48 → b ≠ 52 → b ≠ 53 → b ≠ 55 → m' b = m b) ∧ (∀ k, k < 13 ∨ (23 < k ∧ k < 34) ∨ 38 < k → m' 48 k = m 48 k) ∧ ∀ b, b ≠ 48 → l' b = l b
/-- a line is read: well, or with the same fault -/
def LR (t : Nat → Nat) (e a db : Nat) (r : Int32) (mi mi' mj mj' : MI) (mk mk' : ML) : Prop := FLc db mi mi' ∧ FLr mj mj' mk mk' ∧ ((r = nI 1 ∧ ∃ (γ : SG) (lit nsy a' : Nat), a < a' ∧ γ 0 0 = 1 ∧ AT t e a' mi' mj' mk' ∧ PW γ lit nsy ∧ PDc γ lit nsy db mi' ∧ PDr γ lit nsy mj') ∨ (r = nI 0 ∧ ∃ f a', DD f a' mi' mj'))
theorem or_mod2 (n i : Nat) : (n ||| 2 ^ (i + 1)) % 2 = n % 2 ∧ (n ||| 2 ^ (i + 1)) / 2 = n / 2 ||| 2 ^ i := by
  refine ⟨?_, ?_⟩
  · have h := Nat.or_mod_two_pow (a := n) (b := 2 ^ (i + 1)) (n := 1)
    rw [show (2 : Nat) ^ 1 = 2 from rfl, show 2 ^ (i + 1) % 2 = 0 by rw [Nat.pow_succ]; omega, Nat.or_zero] at h
    exact h
  · rw [Nat.or_div_two, show 2 ^ (i + 1) / 2 = 2 ^ i by rw [Nat.pow_succ]; omega]
theorem pcN_or : ∀ (k n i : Nat), i < k → bt n i = 0 → pcN k (n ||| 2 ^ i) = pcN k n + 1
  | 0, _, _, h, _ => absurd h (by omega)
  | k + 1, n, 0, _, hb => by
    have h0 : n % 2 = 0 := by unfold bt at hb; rw [Nat.pow_zero, Nat.div_one] at hb; exact hb
    have h1 : (n ||| 2 ^ 0) % 2 = 1 := by
      have h := Nat.or_mod_two_pow (a := n) (b := 2 ^ 0) (n := 1)
      rw [show (2 : Nat) ^ 1 = 2 from rfl, h0] at h
      exact h
    have h2 : (n ||| 2 ^ 0) / 2 = n / 2 := by rw [Nat.or_div_two, show (2 : Nat) ^ 0 / 2 = 0 from rfl, Nat.or_zero]
    show (n ||| 2 ^ 0) % 2 + pcN k ((n ||| 2 ^ 0) / 2) = n % 2 + pcN k (n / 2) + 1
    rw [h1, h2, h0]; omega
  | k + 1, n, i + 1, h, hb => by
    have hb2 : bt (n / 2) i = 0 := by
      unfold bt at hb ⊢
      rw [Nat.pow_succ, Nat.mul_comm, ← Nat.div_div_eq_div_mul] at hb
      exact hb
    obtain ⟨e1, e2⟩ := or_mod2 n i
    show (n ||| 2 ^ (i + 1)) % 2 + pcN k ((n ||| 2 ^ (i + 1)) / 2) = n % 2 + pcN k (n / 2) + 1
    rw [e1, e2, pcN_or k (n / 2) i (by omega) hb2]; omega
theorem or_lt31 {n i k : Nat} (hn : n < 2 ^ k) (hi : i < k) : n ||| 2 ^ i < 2 ^ k := Nat.or_lt_two_pow hn (Nat.pow_lt_pow_right (by decide) hi)
section
variable {nb db nc dc : Nat} {by_ rs : RX} {c : Nat} {mi mj : MI} {ml mk : ML} {t : Nat → Nat} {e p a w f : Nat} {x y z : Int32} {γ : SG} {lit nsy : Nat}
theorem PDc.fr {m' : MI} (P : PDc γ lit nsy db mi) (hd : db = 5 ∨ db = 43) (h : FSc mi m') : PDc γ lit nsy db m' := by
  obtain ⟨⟨a1, a2, a3, a4, a5, a6, a7, a8, a9, a10, a11, a12⟩, b, c1, c2⟩ := P
  have g : ∀ b, b ≠ 4 → m' b = mi b := h.1
  refine ⟨⟨by rw [g db (by omega)]; exact a1, by rw [g db (by omega)]; exact a2, by rw [g db (by omega)]; exact a3, by rw [g db (by omega)]; exact a4, by rw [g db (by omega)]; exact a5, by rw [g db (by omega)]; exact a6, by rw [g db (by omega)]; exact a7, by rw [g db (by omega)]; exact a8, fun i hi => by rw [g (db + 1) (by omega)]; exact a9 i hi, fun i hi => by rw [g (db + 2) (by omega)]; exact a10 i hi, fun i hi => by rw [g (db + 3) (by omega)]; exact a11 i hi, fun i hi => by rw [g (db + 4) (by omega)]; exact a12 i hi⟩, fun k hk => by rw [g (db + 2) (by omega), g (db + 3) (by omega)]; exact b k hk, by rw [h.2 10 (by omega)]; exact c1, by rw [h.2 11 (by omega)]; exact c2⟩
theorem PDr.fr {m' : MI} {l l' : ML} (P : PDr γ lit nsy mj) (h : FSr mj m' l l') : PDr γ lit nsy m' := by
  obtain ⟨a1, a2, a3, a4, a5, a6, a7, a8, a9, b1, b2, b3, b4⟩ := P
  have g := h.2.1
  refine ⟨by rw [g 13 (by omega)]; exact a1, fun z => by rw [g 14 (by omega), g 15 (by omega), g 16 (by omega)]; exact a2 z, by rw [g 17 (by omega)]; exact a3, by rw [g 18 (by omega)]; exact a4, by rw [g 19 (by omega)]; exact a5, by rw [g 20 (by omega)]; exact a6, by rw [g 21 (by omega)]; exact a7, by rw [g 22 (by omega)]; exact a8, by rw [g 23 (by omega)]; exact a9, fun k hk => by rw [h.1 52 (by decide)]; exact b1 k hk, fun k hk => by rw [h.1 53 (by decide)]; exact b2 k hk, fun k hk => by rw [h.1 55 (by decide)]; exact b3 k hk, by rw [h.1 55 (by decide)]; exact b4⟩
theorem FSc.l {m m' : MI} (h : FSc m m') : FLc db m m' := ⟨fun b h1 _ => h.1 b h1, h.2 4 (by omega)⟩
theorem FSr.l {m m' : MI} {l l' : ML} (h : FSr m m' l l') : FLr m m' l l' := ⟨fun b h1 _ _ _ => h.1 b h1, fun k hk => h.2.1 k (by omega), h.2.2⟩
theorem FLc.tr {m1 m2 m3 : MI} (h : FLc db m1 m2) (g : FLc db m2 m3) : FLc db m1 m3 := ⟨fun b h1 h2 => by rw [g.1 b h1 h2, h.1 b h1 h2], by rw [g.2, h.2]⟩
theorem FLr.tr {m1 m2 m3 : MI} {l1 l2 l3 : ML} (h : FLr m1 m2 l1 l2) (g : FLr m2 m3 l2 l3) : FLr m1 m3 l1 l3 := ⟨fun b h1 h2 h3 h4 => by rw [g.1 b h1 h2 h3 h4, h.1 b h1 h2 h3 h4], fun k hk => by rw [g.2.1 k hk, h.2.1 k hk], fun b hb => by rw [g.2.2 b hb, h.2.2 b hb]⟩
theorem FLc.d {m : MI} {j k : Nat} (v : Int32) (h : db ≤ j ∧ j ≤ db + 4) (hd : db = 5 ∨ db = 43) : FLc db m (u2 m j k v) := ⟨fun b h1 h2 => u2_o _ _ (by omega), u2_ne2 _ _ (Or.inl (by omega))⟩
theorem FLc.k {m : MI} {k : Nat} (v : Int32) (hk : k ≠ 4) : FLc db m (u2 m 4 k v) := ⟨fun b h1 _ => u2_o _ _ h1, u2_ne2 _ _ (Or.inr (by omega))⟩
theorem FLr.d {m : MI} {l : ML} {j k : Nat} (v : Int32) (h : j = 52 ∨ j = 53 ∨ j = 55) : FLr m (u2 m j k v) l l := ⟨fun b h1 h2 h3 h4 => u2_o _ _ (by omega), fun q hq => u2_ne2 _ _ (Or.inl (by omega)), fun _ _ => rfl⟩
theorem FLr.k {m : MI} {l : ML} {k : Nat} (v : Int32) (hk : 13 ≤ k ∧ k ≤ 23) : FLr m (u2 m 48 k v) l l := ⟨fun b h1 _ _ _ => u2_o _ _ h1, fun q hq => u2_ne2 _ _ (Or.inr (by omega)), fun _ _ => rfl⟩
theorem AT.co (A : AT t e a mi mj mk) {j k : Nat} (v : Int32) (h3 : j ≠ 3) (h4 : j ≠ 4) : AT t e a (u2 mi j k v) mj mk := by
  obtain ⟨ha, K, T, R⟩ := A
  have g : (u2 mi j k v) 4 = mi 4 := u2_o _ _ (by omega)
  have g3 : (u2 mi j k v) 3 = mi 3 := u2_o _ _ (by omega)
  refine ⟨ha, ?_, ⟨by rw [g]; exact T.1, fun q hq => by rw [g3]; exact T.2 q hq⟩, R.1, R.2.1, R.2.2.1, by rw [g]; exact R.2.2.2⟩
  unfold KC; rw [g]; exact K
theorem AT.ro (A : AT t e a mi mj mk) {j k : Nat} (v : Int32) (h : j ≠ 57 ∧ (j ≠ 48 ∨ k < 33)) : AT t e a mi (u2 mj j k v) mk := by
  obtain ⟨ha, K, T, K', T', h38, h40⟩ := A
  have g : ∀ q, 33 ≤ q → (u2 mj j k v) 48 q = mj 48 q := fun q hq => u2_ne2 _ _ (by omega)
  refine ⟨ha, K, T, ⟨by rw [g 35 (by decide)]; exact K'.1, by rw [g 36 (by decide)]; exact K'.2.1, fun h => by rw [g 34 (by decide)]; exact K'.2.2.1 h, fun h => by rw [g 37 (by decide)]; exact K'.2.2.2.1 h, K'.2.2.2.2⟩, ⟨by rw [g 33 (by decide)]; exact T'.1, fun q hq => by rw [u2_o _ _ (by omega)]; exact T'.2 q hq⟩, by rw [g 38 (by decide)]; exact h38, h40⟩
theorem B_ok {mj' : MI} {mk' : ML} (hn : ¬ mj 48 13 = 0) (d : Ret m_r_next [vR 19 0 48] none c (MRc nb db by_ rs) mj mk mj' mk') : Ret m_r_begins [vR 19 0 48, vI (nI 0)] none c (MRc nb db by_ rs) mj mk mj' mk' :=
  g_r_begins_0 ⟨fun _ => ⟨fun _ => ⟨_, _, d, rfl, rfl, rfl⟩, fun z => absurd z hn⟩, fun z => absurd rfl z⟩
theorem B_full (hn : ¬ mj 48 13 = 0) (h38 : mj 48 38 = nI 0) : Ret m_r_begins [vR 19 0 48, vI (nI 1)] none c (MRc nb db by_ rs) mj mk (u2 (u2 mj 48 38 (nI 4)) 48 35 (nI 0)) mk :=
  g_r_begins_0 ⟨fun z => absurd z (by decide), fun _ => ⟨fun z => absurd h38 z, fun _ => ⟨fun _ => ⟨_, _, D_next (DR.mk0 (f := 4) (by decide) (by decide)), rfl, rfl, rfl⟩, fun z => absurd z hn⟩⟩⟩
theorem B_lack (hn : mj 48 13 = 0) (h38 : mj 48 38 = nI 0) : Ret m_r_begins [vR 19 0 48, vI (nI 0)] none c (MRc nb db by_ rs) mj mk (u2 (u2 mj 48 38 (nI 5)) 48 35 (nI 0)) mk :=
  g_r_begins_0 ⟨fun _ => ⟨fun z => absurd hn z, fun _ => ⟨fun z => absurd h38 z, fun _ => ⟨_, _, D_next (DR.mk0 (f := 5) (by decide) (by decide)), rfl, rfl, rfl⟩⟩⟩, fun z => absurd rfl z⟩
theorem gN (hW : WF γ) (hr : γ 0 0 = 1) : ∃ N : Nat, γ 0 5 = N ∧ 3 ≤ N ∧ N ≤ 31 ∧ zI (γ 0 5) = nI N ∧ (γ 0 5).toNat = N := by
  have h1 := hW.n3 hr
  have h2 := hW.nn
  exact ⟨(γ 0 5).toNat, by omega, by omega, by omega, z_nat h2.1, rfl⟩
theorem nN0 {N : Nat} (h3 : 3 ≤ N) (h31 : N ≤ 31) (h : x = nI N) : ¬ x = 0 := by
  rw [h, show (0 : Int32) = nI 0 from rfl, nI_eq (by omega) (by decide)]; omega
/-- a light is read -/
theorem P_light (hd : db = 5 ∨ db = 43) (hr : γ 0 0 = 1) (W : PW γ lit nsy) (P : PDc γ lit nsy db mi) (R : PDr γ lit nsy mj) {m3 m4 : MI} {n v : Nat} (hn : n < 31) (hv : v ≤ 9999) (f1 : ∀ b, b ≠ 4 → m3 b = mi b) (h10 : m3 4 10 = nI (lit ||| 2 ^ n)) (h11 : m3 4 11 = mi 4 11) (f2 : ∀ b, b ≠ 48 → m4 b = mj b) (f3 : ∀ k, k < 34 → m4 48 k = mj 48 k) :
    PW (u2 γ 1 n (v : Int)) (lit ||| 2 ^ n) nsy ∧ PDc (u2 γ 1 n (v : Int)) (lit ||| 2 ^ n) nsy db (u2 m3 (db + 2) n (nI v)) ∧ PDr (u2 γ 1 n (v : Int)) (lit ||| 2 ^ n) nsy (u2 (u2 m4 48 21 (nI (lit ||| 2 ^ n))) 55 n (nI v)) := by
  have e0 : (u2 γ 1 n (v : Int)) 0 = γ 0 := u2_o _ _ (by decide)
  have e2 : (u2 γ 1 n (v : Int)) 2 = γ 2 := u2_o _ _ (by decide)
  have e3 : (u2 γ 1 n (v : Int)) 3 = γ 3 := u2_o _ _ (by decide)
  have e4 : (u2 γ 1 n (v : Int)) 4 = γ 4 := u2_o _ _ (by decide)
  have e8 : (u2 γ 1 n (v : Int)) 8 = γ 8 := u2_o _ _ (by decide)
  have eo : opB (u2 γ 1 n (v : Int)) = opB γ := by unfold opB; rw [e0, e2]
  have es : shB (u2 γ 1 n (v : Int)) = shB γ := by unfold shB; rw [e0, e2]
  have et : stB (u2 γ 1 n (v : Int)) = stB γ := by unfold stB; rw [eo, es]
  have el : loB (u2 γ 1 n (v : Int)) = loB γ := by unfold loB; rw [e0]
  obtain ⟨hW, w1, w2, w3, w4, w5, w6, w7⟩ := W
  have e1 : ∀ k, (u2 γ 1 n (v : Int)) 1 k = if k = n then (v : Int) else γ 1 k := fun k => by
    by_cases h : k = n
    · rw [h, u2_s, if_pos rfl]
    · rw [u2_ne2 _ _ (Or.inr h), if_neg h]
  refine ⟨⟨?_, by rw [e0]; exact w1, fun z => ?_, or_lt31 w3 hn, w4, by rw [et]; exact w5, w6, by rw [el]; exact w7⟩, ?_, ?_⟩
  · refine hW.next hr (fun k _ _ _ _ _ _ _ => by rw [e0]) ?_ ?_ ?_ ?_ ?_ (fun j => ?_) (fun j => ?_) e3 e4 e8
    · rw [e0, w1.1]; omega
    · rw [e0]; exact hW.lost
    · rw [e0, w1.2.2.2.1]; omega
    · rw [e0]; exact Or.inl w1.2.2.2.2.1
    · rw [e0, w1.2.2.2.2.2.2.2]; omega
    · rw [e1 j]
      by_cases h : j = n
      · rw [if_pos h]; omega
      · rw [if_neg h]; exact hW.lights j
    · rw [e2]; exact hW.shut j
  · rw [e0, hr] at z; exact absurd z (by decide)
  · obtain ⟨⟨a1, a2, a3, a4, a5, a6, a7, a8, a9, a10, a11, a12⟩, b, c1, c2⟩ := P
    have g : ∀ b, b ≠ 4 → b ≠ db + 2 → (u2 m3 (db + 2) n (nI v)) b = mi b := fun b h1 h2 => by rw [u2_o _ _ h2, f1 b h1]
    have gl : ∀ k, k < 31 → (u2 m3 (db + 2) n (nI v)) (db + 2) k = zI ((u2 γ 1 n (v : Int)) 1 k) := fun k hk => by
      rw [e1 k]
      by_cases h : k = n
      · rw [h, u2_s, if_pos rfl]; rfl
      · rw [u2_ne2 _ _ (Or.inr h), if_neg h, f1 _ (by omega)]; exact (b k hk).1
    have h31 := hW.nn
    refine ⟨⟨?_, ?_, ?_, ?_, ?_, ?_, ?_, ?_, ?_, ?_, ?_, ?_⟩, fun k hk => ⟨gl k hk, ?_⟩, ?_, ?_⟩
    · rw [g db (by omega) (by omega), e0]; exact a1
    · rw [g db (by omega) (by omega), e0]; exact a2
    · rw [g db (by omega) (by omega), e0]; exact a3
    · rw [g db (by omega) (by omega), e0]; exact a4
    · rw [g db (by omega) (by omega), e0]; exact a5
    · rw [g db (by omega) (by omega), eo]; exact a6
    · rw [g db (by omega) (by omega), es]; exact a7
    · rw [g db (by omega) (by omega), e0]; exact a8
    · rw [g (db + 1) (by omega) (by omega), e0]; exact a9
    · intro i hi; rw [e0] at hi; exact gl i (by omega)
    · rw [g (db + 3) (by omega) (by omega), e0, e3]; exact a11
    · rw [g (db + 4) (by omega) (by omega), e0, e4]; exact a12
    · rw [g (db + 3) (by omega) (by omega), e3]; exact (b k hk).2
    · rw [u2_ne2 _ _ (Or.inl (by omega))]; exact h10
    · rw [u2_ne2 _ _ (Or.inl (by omega)), h11]; exact c2
  · obtain ⟨a1, a2, a3, a4, a5, a6, a7, a8, a9, b1, b2, b3, b4⟩ := R
    have g : ∀ k, k < 34 → k ≠ 21 → (u2 (u2 m4 48 21 (nI (lit ||| 2 ^ n))) 55 n (nI v)) 48 k = mj 48 k := fun k hk h21 => by rw [u2_ne2 _ _ (Or.inl (by decide)), u2_ne2 _ _ (Or.inr h21), f3 k hk]
    have gc : ∀ b, b ≠ 48 → b ≠ 55 → (u2 (u2 m4 48 21 (nI (lit ||| 2 ^ n))) 55 n (nI v)) b = mj b := fun b h1 h2 => by rw [u2_o _ _ h2, u2_o _ _ h1, f2 b h1]
    have g5 : ∀ k, k ≠ n → (u2 (u2 m4 48 21 (nI (lit ||| 2 ^ n))) 55 n (nI v)) 55 k = mj 55 k := fun k hk => by rw [u2_ne2 _ _ (Or.inr hk), u2_o _ _ (by decide), f2 55 (by decide)]
    refine ⟨?_, ?_, ?_, ?_, ?_, ?_, ?_, ?_, ?_, ?_, ?_, ?_, ?_⟩
    · rw [g 13 (by decide) (by decide), e0]; exact a1
    · rw [g 14 (by decide) (by decide), g 15 (by decide) (by decide), g 16 (by decide) (by decide), e0]; exact a2
    · rw [g 17 (by decide) (by decide), e0]; exact a3
    · rw [g 18 (by decide) (by decide), et]; exact a4
    · rw [g 19 (by decide) (by decide)]; exact a5
    · rw [g 20 (by decide) (by decide), el]; exact a6
    · rw [u2_ne2 _ _ (Or.inl (by decide)), u2_s]
    · rw [g 22 (by decide) (by decide), et]; exact a8
    · rw [g 23 (by decide) (by decide)]; exact a9
    · rw [gc 52 (by decide) (by decide), e3]; exact b1
    · rw [gc 53 (by decide) (by decide), e0, e4]; exact b2
    · intro k hk
      refine ⟨?_, by rw [g5 _ (by omega), e2]; exact (b3 k hk).2⟩
      rw [e1 k]
      by_cases h : k = n
      · rw [h, u2_s, if_pos rfl]; rfl
      · rw [g5 _ h, if_neg h]; exact (b3 k hk).1
    · rw [g5 _ (by omega), e0]; exact b4
theorem L_light (hb : nb = 43 ∧ db = 5 ∨ nb = 5 ∧ db = 43) (he : e ≤ 800) (ht : ∀ k, t k ≤ 255) (A : AT t e a mi mj mk) (hk : tkK t e a = 2) (hr : γ 0 0 = 1) (W : PW γ lit nsy) (P : PDc γ lit nsy db mi) (R : PDr γ lit nsy mj) :
    ∃ r mi' mj' mk', Ret m_rd_takeLight [vR 12 0 4] (some (vI r)) c (MRc nb db (some (0, 800, 3)) rs) mi ml mi' ml ∧ Ret m_r_readLight [vR 19 0 48] none c (MRc nc dc (some (0, 800, 3)) rs) mj mk mj' mk' ∧ LR t e a db r mi mi' mj mj' mk mk' := by
  have hd : db = 5 ∨ db = 43 := by omega
  obtain ⟨N, eN, h3, h31, zN, tN⟩ := gN W.1 hr
  obtain ⟨mi1, mj1, mk1, c1, d1, A1, f1, g1⟩ := J_next (nc := nc) (dc := dc) (nb := nb) (db := db) (rs := rs) (c := c) (ml := ml) he ht A (by rw [hk]; decide)
  have P1 := P.fr hd f1.s
  have R1 := R.fr g1.s
  have ae := (tk_word hk).1
  have n1 := nxA_in (t := t) ae
  have x10 : mi1 4 10 = nI lit := P1.2.2.1
  have x21 : mj1 48 21 = nI lit := R1.2.2.2.2.2.2.1
  have d1' := B_ok (nN0 h3 h31 (R.1.trans zN)) d1
  obtain ⟨r2, v2, mi2, mj2, mk2, c2, d2, f2, g2, Q2⟩ := J_new (nc := nc) (dc := dc) (c := c) (rs := rs) (ml := ml) (x := nI lit) hb he ht (show 0 < N by omega) h31 W.2.2.2.1 A1 (P1.1.1.trans zN) (R1.1.trans zN) rfl
  have c2' : Ret m_rd_takeNew [vR 12 0 4, vI (mi1 4 10)] (some (vI r2)) c (MRc nb db (some (0, 800, 3)) rs) mi1 ml mi2 ml := by rw [x10]; exact c2
  have d2' : Ret m_r_readNew [vR 19 0 48, vI (mj1 48 21)] (some (vI v2)) c (MRc nc dc (some (0, 800, 3)) rs) mj1 mk1 mj2 mk2 := by rw [x21]; exact d2
  rcases Q2 with ⟨er2, ae1, ⟨n, hn, bn, ev2, e9⟩, A2⟩ | ⟨er2, f, D2⟩
  · subst er2 ev2
    have P2 := P1.fr hd f2
    have R2 := R1.fr g2
    have eo : mi2 4 10 ||| (nI 1 <<< (mi2 4 9 &&& 31)) = nI (lit ||| 2 ^ n) := or_n P2.2.2.1 e9 (by omega)
    have n2 := nxA_in (t := t) ae1
    obtain ⟨r3, v3, mi3, mj3, mk3, c3, d3, f3, g3, Q3⟩ := J_whole (nc := nc) (dc := dc) (nb := nb) (db := db) (c := c) (rs := rs) (ml := ml) he ht (lo := 0) (hi := 9999) (by decide) (by decide) (A2.u9 (mi2 4 10 ||| (nI 1 <<< (mi2 4 9 &&& 31))) (k := 10) (by decide))
    have F12 : FLc db mi mi3 := ((f1.s.l).tr f2.l).tr ((FLc.k _ (by decide)).tr f3.l)
    have G12 : FLr mj mj3 mk mk3 := ((g1.s.l).tr g2.l).tr g3.l
    rcases Q3 with ⟨er3, ae2, ⟨v, -, hv, ev3, e93⟩, A3⟩ | ⟨er3, f, D3⟩
    · subst er3 ev3
      have n3 := nxA_in (t := t) ae2
      have h38 : mj3 48 38 ≤ 0 := by rw [A3.2.2.2.2.2.1]; decide
      have cl : (mi2 4 9).toNatClampNeg = n := cln e9 (by omega)
      have cr : (nI n).toNatClampNeg = n := nI_clamp (by omega)
      have m21 : mj3 48 21 ||| (nI 1 <<< (nI n &&& 31)) = nI (lit ||| 2 ^ n) := or_n (by rw [g3.2.1 21 (by omega), g2.2.1 21 (by omega)]; exact x21) rfl (by omega)
      obtain ⟨W', P', R'⟩ := P_light (m3 := mi3) (m4 := mj3) hd hr W P R (show n < 31 by omega) hv (fun b hb4 => by rw [f3.1 b hb4, u2_o _ _ hb4, f2.1 b hb4, f1.1 b hb4]) (by rw [f3.2 10 (by omega), u2_s]; exact eo) (by rw [f3.2 11 (by omega), u2_ne2 _ _ (Or.inr (by decide)), f2.2 11 (by omega), f1.2 11 (by omega)]) (fun b hb4 => by rw [g3.1 b hb4, g2.1 b hb4, g1.1 b hb4]) (fun k hk => by rw [g3.2.1 k (by omega), g2.2.1 k (by omega), g1.2.1 k (by omega)])
      refine ⟨nI 1, u2 mi3 (db + 2) n (nI v), u2 (u2 mj3 48 21 (nI (lit ||| 2 ^ n))) 55 n (nI v), mk3, g_rd_takeLight_0 hb ⟨_, _, c1, _, _, _, c2', fun _ => ⟨_, _, _, c3, fun _ => ⟨ixn e9 (by omega) (by decide), by rw [cl, e93]; exact ⟨rfl, rfl, rfl⟩⟩, fun z => absurd z (by decide)⟩, fun z => absurd z (by decide)⟩, g_r_readLight_0 ⟨_, _, d1', _, _, _, d2', _, _, _, d3, fun _ => ⟨vp_in_nI (by omega) (by decide), by rw [cr, m21]; exact ⟨rfl, rfl, rfl⟩⟩, fun z => absurd h38 z⟩, F12.tr (FLc.d _ (by omega) hd), (G12.tr (FLr.k _ (by decide))).tr (FLr.d _ (by decide)), Or.inl ⟨rfl, _, _, _, nxA t e (nxA t e (nxA t e a)), ?_, ?_, ?_, W', P', R'⟩⟩
      · omega
      · rw [u2_o _ _ (by decide)]; exact hr
      · exact ((A3.co _ (by omega) (by omega)).ro _ (by omega)).ro _ (by omega)
    · subst er3
      exact ⟨nI 0, mi3, mj3, mk3, g_rd_takeLight_0 hb ⟨_, _, c1, _, _, _, c2', fun _ => ⟨_, _, _, c3, fun z => absurd rfl z, fun _ => ⟨rfl, rfl, rfl⟩⟩, fun z => absurd z (by decide)⟩, g_r_readLight_0 ⟨_, _, d1', _, _, _, d2', _, _, _, d3, fun z => absurd z D3.2.2.1.np, fun _ => ⟨rfl, rfl, rfl⟩⟩, F12, G12, Or.inr ⟨rfl, f, _, D3⟩⟩
  · subst er2
    exact ⟨nI 0, mi2, mj2, mk2, g_rd_takeLight_0 hb ⟨_, _, c1, _, _, _, c2', fun z => absurd rfl z, fun _ => ⟨rfl, rfl, rfl⟩⟩, g_r_readLight_0 ⟨_, _, d1', _, _, _, d2', _, _, _, D_readWhole D2.2.2.1 _ _, fun z => absurd z D2.2.2.1.np, fun _ => ⟨rfl, rfl, rfl⟩⟩, (f1.s.l).tr f2.l, (g1.s.l).tr g2.l, Or.inr ⟨rfl, f, _, D2⟩⟩
end
