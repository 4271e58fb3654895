/-! ===== how many bits ===== -/
theorem and_sp (k : Nat) {x u : Nat} (hx : x < 2 ^ k) (hu : u < 2 ^ k) (y v : Nat) : (x + 2 ^ k * y) &&& (u + 2 ^ k * v) = (x &&& u) + 2 ^ k * (y &&& v) := by
  have e := Nat.mod_add_div ((x + 2 ^ k * y) &&& (u + 2 ^ k * v)) (2 ^ k)
  rw [← e, Nat.and_mod_two_pow, Nat.and_div_two_pow, Nat.add_mul_mod_self_left, Nat.add_mul_mod_self_left, Nat.mod_eq_of_lt hx, Nat.mod_eq_of_lt hu, Nat.add_mul_div_left _ _ (Nat.two_pow_pos k), Nat.add_mul_div_left _ _ (Nat.two_pow_pos k), Nat.div_eq_of_lt hx, Nat.div_eq_of_lt hu, Nat.zero_add, Nat.zero_add]
/-- of a number: its four bytes -/
def b4 (a b c d : Nat) : Nat := a + 256 * (b + 256 * (c + 256 * d))
theorem b4_and {a b c d u : Nat} (ha : a < 256) (hb : b < 256) (hc : c < 256) (hu : u < 256) : b4 a b c d &&& b4 u u u u = b4 (a &&& u) (b &&& u) (c &&& u) (d &&& u) := by
  unfold b4
  rw [show (256 : Nat) = 2 ^ 8 from rfl] at *
  rw [and_sp 8 ha hu, and_sp 8 hb hu, and_sp 8 hc hu]
theorem pq1 : ∀ b, b < 256 → ∀ e, e < 2 → ((b / 2 + 128 * e) &&& 85) = (b / 2 &&& 85) ∧ (b / 2 &&& 85) ≤ b := by decide +kernel
def pa (b : Nat) : Nat := b - (b / 2 &&& 85)
def pb (p : Nat) : Nat := (p &&& 51) + (p / 4 &&& 51)
def pd (q : Nat) : Nat := (q + q / 16) % 16
theorem pq2 : ∀ b, b < 256 → ∀ e, e < 4 → ((b / 4 + 64 * e) &&& 51) = (b / 4 &&& 51) := by decide +kernel
theorem pq3 : ∀ b, b < 256 → pa b < 256 ∧ pb (pa b) % 16 ≤ 4 ∧ pb (pa b) ≤ 68 ∧ pd (pb (pa b)) = pcN 8 b ∧ pcN 8 b ≤ 8 := by decide +kernel
theorem pq4 : ∀ q, q ≤ 68 → ∀ e, e ≤ 4 → ((q + q / 16 + 16 * e) &&& 15) = pd q := by decide +kernel
theorem pcN_b (a : Nat) : ∀ k m, a < 2 ^ k → ∀ n, pcN (k + m) (a + 2 ^ k * n) = pcN k a + pcN m n
  | 0, m, h, n => by
    have : a = 0 := by simp at h; exact h
    subst this; simp [pcN]
  | k + 1, m, h, n => by
    rw [show k + 1 + m = (k + m) + 1 by omega]
    show (a + 2 ^ (k + 1) * n) % 2 + pcN (k + m) ((a + 2 ^ (k + 1) * n) / 2) = a % 2 + pcN k (a / 2) + pcN m n
    have e1 : a + 2 ^ (k + 1) * n = a + 2 * (2 ^ k * n) := by rw [Nat.pow_succ]; ac_rfl
    rw [e1, Nat.add_mul_mod_self_left, Nat.add_mul_div_left _ _ (by decide), pcN_b (a / 2) k m (by rw [Nat.pow_succ] at h; omega) n]
    omega
theorem pcN_4 {a b c d : Nat} (ha : a < 256) (hb : b < 256) (hc : c < 256) : pcN 32 (b4 a b c d) = pcN 8 a + pcN 8 b + pcN 8 c + pcN 8 d := by
  have e1 := pcN_b a 8 24 ha (b + 256 * (c + 256 * d))
  have e2 := pcN_b b 8 16 hb (c + 256 * d)
  have e3 := pcN_b c 8 8 hc d
  unfold b4
  simp only [show (2:Nat)^8 = 256 from rfl, show 8 + 24 = 32 from rfl, show 8 + 16 = 24 from rfl, show 8 + 8 = 16 from rfl] at e1 e2 e3
  omega
def bc1 (n : Nat) : Nat := n - (n / 2 &&& 1431655765)
def bc2 (n : Nat) : Nat := (n &&& 858993459) + (n / 4 &&& 858993459)
def bc3 (n : Nat) : Nat := (n + n / 16) &&& 252645135
def bc4 (n : Nat) : Nat := n + n / 256
def bc5 (n : Nat) : Nat := n + n / 65536
theorem bc_all {a b c d : Nat} (ha : a < 256) (hb : b < 256) (hc : c < 256) (hd : d < 256) :
    (b4 a b c d / 2 &&& 1431655765) ≤ b4 a b c d ∧ bc1 (b4 a b c d) = b4 (pa a) (pa b) (pa c) (pa d) ∧ bc2 (bc1 (b4 a b c d)) = b4 (pb (pa a)) (pb (pa b)) (pb (pa c)) (pb (pa d)) ∧ bc3 (bc2 (bc1 (b4 a b c d))) = b4 (pcN 8 a) (pcN 8 b) (pcN 8 c) (pcN 8 d) ∧ bc5 (bc4 (bc3 (bc2 (bc1 (b4 a b c d))))) % 64 = pcN 32 (b4 a b c d) := by
  have A := pq3 a ha
  have B := pq3 b hb
  have C := pq3 c hc
  have D := pq3 d hd
  have h1 : b4 a b c d / 2 &&& 1431655765 = b4 (a / 2 &&& 85) (b / 2 &&& 85) (c / 2 &&& 85) (d / 2 &&& 85) := by
    have e : b4 a b c d / 2 = b4 (a / 2 + 128 * (b % 2)) (b / 2 + 128 * (c % 2)) (c / 2 + 128 * (d % 2)) (d / 2) := by unfold b4; omega
    rw [e, show (1431655765 : Nat) = b4 85 85 85 85 from rfl, b4_and (by omega) (by omega) (by omega) (by decide), (pq1 a ha _ (by omega)).1, (pq1 b hb _ (by omega)).1, (pq1 c hc _ (by omega)).1]
  have l1 := (pq1 a ha 0 (by decide)).2
  have l2 := (pq1 b hb 0 (by decide)).2
  have l3 := (pq1 c hc 0 (by decide)).2
  have l4 := (pq1 d hd 0 (by decide)).2
  have h2 : bc1 (b4 a b c d) = b4 (pa a) (pa b) (pa c) (pa d) := by
    unfold bc1
    rw [h1]
    unfold b4 pa
    omega
  have h3 : bc2 (bc1 (b4 a b c d)) = b4 (pb (pa a)) (pb (pa b)) (pb (pa c)) (pb (pa d)) := by
    rw [h2]
    generalize pa a = p at *
    generalize pa b = q at *
    generalize pa c = r at *
    generalize pa d = s at *
    have e : b4 p q r s / 4 = b4 (p / 4 + 64 * (q % 4)) (q / 4 + 64 * (r % 4)) (r / 4 + 64 * (s % 4)) (s / 4) := by unfold b4; omega
    unfold bc2
    rw [e, show (858993459 : Nat) = b4 51 51 51 51 from rfl, b4_and (by omega) (by omega) (by omega) (by decide), b4_and (by omega) (by omega) (by omega) (by decide), pq2 p (by omega) _ (by omega), pq2 q (by omega) _ (by omega), pq2 r (by omega) _ (by omega)]
    unfold b4 pb
    omega
  have h4 : bc3 (bc2 (bc1 (b4 a b c d))) = b4 (pcN 8 a) (pcN 8 b) (pcN 8 c) (pcN 8 d) := by
    rw [h3, ← A.2.2.2.1, ← B.2.2.2.1, ← C.2.2.2.1, ← D.2.2.2.1]
    generalize pb (pa a) = p at *
    generalize pb (pa b) = q at *
    generalize pb (pa c) = r at *
    generalize pb (pa d) = s at *
    have e : b4 p q r s + b4 p q r s / 16 = b4 (p + p / 16 + 16 * (q % 16)) (q + q / 16 + 16 * (r % 16)) (r + r / 16 + 16 * (s % 16)) (s + s / 16 + 16 * 0) := by unfold b4; omega
    unfold bc3
    rw [e, show (252645135 : Nat) = b4 15 15 15 15 from rfl, b4_and (by omega) (by omega) (by omega) (by decide), pq4 p (by omega) _ (by omega), pq4 q (by omega) _ (by omega), pq4 r (by omega) _ (by omega), pq4 s (by omega) _ (by omega)]
  refine ⟨by rw [h1]; unfold b4; omega, h2, h3, h4, ?_⟩
  rw [h4, pcN_4 ha hb hc]
  have A' := A.2.2.2.2
  have B' := B.2.2.2.2
  have C' := C.2.2.2.2
  have D' := D.2.2.2.2
  generalize pcN 8 a = p at *
  generalize pcN 8 b = q at *
  generalize pcN 8 c = r at *
  generalize pcN 8 d = s at *
  clear A B C D l1 l2 l3 l4 h1 h2 h3 h4
  unfold bc5 bc4 b4
  have e1 : (p + 256 * (q + 256 * (r + 256 * s))) / 256 = q + 256 * (r + 256 * s) := by omega
  rw [e1]
  have e2 : (p + 256 * (q + 256 * (r + 256 * s)) + (q + 256 * (r + 256 * s))) / 65536 = r + s + 256 * s := by omega
  rw [e2]
  omega
theorem b4_of {n : Nat} (h : n < 2 ^ 32) : ∃ a b c d, n = b4 a b c d ∧ a < 256 ∧ b < 256 ∧ c < 256 ∧ d < 256 :=
  ⟨n % 256, n / 256 % 256, n / 65536 % 256, n / 16777216, by unfold b4; omega, by omega, by omega, by omega, by omega⟩
theorem nI_and (a b : Nat) : nI a &&& nI b = nI (a &&& b) := by
  apply Int32.toBitVec_inj.mp
  apply BitVec.eq_of_toNat_eq
  simp only [Int32.toBitVec_and, nI, Int32.toBitVec_ofNat', BitVec.toNat_and, BitVec.toNat_ofNat]
  rw [← Nat.and_mod_two_pow]
theorem nI_xor (a b : Nat) : nI a ^^^ nI b = nI (a ^^^ b) := by
  apply Int32.toBitVec_inj.mp
  apply BitVec.eq_of_toNat_eq
  simp only [Int32.toBitVec_xor, nI, Int32.toBitVec_ofNat', BitVec.toNat_xor, BitVec.toNat_ofNat]
  rw [← Nat.xor_mod_two_pow]
theorem nI_or (a b : Nat) : nI a ||| nI b = nI (a ||| b) := by
  apply Int32.toBitVec_inj.mp
  apply BitVec.eq_of_toNat_eq
  simp only [Int32.toBitVec_or, nI, Int32.toBitVec_ofNat', BitVec.toNat_or, BitVec.toNat_ofNat]
  rw [← Nat.or_mod_two_pow]
theorem nI_sub {a b : Nat} (h : b ≤ a) : nI a - nI b = nI (a - b) := by
  have e : nI a = nI (a - b) + nI b := by
    rw [← show nI (a - b + b) = nI (a - b) + nI b from Int32.ofNat_add _ _, Nat.sub_add_cancel h]
  rw [e, Int32.add_sub_cancel]
/-- a number less its lowest bit has one bit less -/
theorem low_off : ∀ k n, n < 2 ^ k → 0 < n → pcN k (n &&& (n - 1)) + 1 = pcN k n ∧ (n &&& (n - 1)) < n
  | 0, n, h, h0 => by simp at h; omega
  | k + 1, n, h, h0 => by
    rw [Nat.pow_succ] at h
    have e := Nat.mod_add_div n 2
    rcases Nat.mod_two_eq_zero_or_one n with z | z
    · have ih := low_off k (n / 2) (by omega) (by omega)
      have e1 : n &&& (n - 1) = 0 + 2 ^ 1 * (n / 2 &&& (n / 2 - 1)) := by
        have := and_sp 1 (x := 0) (u := 1) (by decide) (by decide) (n / 2) (n / 2 - 1)
        rw [show 0 + 2 ^ 1 * (n / 2) = n by omega, show 1 + 2 ^ 1 * (n / 2 - 1) = n - 1 by omega] at this
        exact this
      show (n &&& (n - 1)) % 2 + pcN k ((n &&& (n - 1)) / 2) + 1 = n % 2 + pcN k (n / 2) ∧ _
      rw [e1, show (0 + 2 ^ 1 * (n / 2 &&& (n / 2 - 1))) % 2 = 0 by omega, show (0 + 2 ^ 1 * (n / 2 &&& (n / 2 - 1))) / 2 = (n / 2 &&& (n / 2 - 1)) by omega]
      omega
    · have e1 : n &&& (n - 1) = 0 + 2 ^ 1 * (n / 2) := by
        have := and_sp 1 (x := 1) (u := 0) (by decide) (by decide) (n / 2) (n / 2)
        rw [show 1 + 2 ^ 1 * (n / 2) = n by omega, show 0 + 2 ^ 1 * (n / 2) = n - 1 by omega, Nat.and_self] at this
        exact this
      show (n &&& (n - 1)) % 2 + pcN k ((n &&& (n - 1)) / 2) + 1 = n % 2 + pcN k (n / 2) ∧ _
      rw [e1, show (0 + 2 ^ 1 * (n / 2)) % 2 = 0 by omega, show (0 + 2 ^ 1 * (n / 2)) / 2 = (n / 2) by omega]
      omega
theorem pcN_0 : ∀ k, pcN k 0 = 0
  | 0 => rfl
  | k + 1 => by show 0 % 2 + pcN k (0 / 2) = 0; rw [show 0 / 2 = 0 from rfl, pcN_0 k]
theorem pcN_le : ∀ k n, pcN k n ≤ k
  | 0, _ => Nat.le_refl _
  | k + 1, n => by
    show n % 2 + pcN k (n / 2) ≤ k + 1
    have := pcN_le k (n / 2)
    omega
/-! bitCount, many -/
def jus (x : Int32) (k : Nat) : Int32 := (x.toUInt32 >>> ((nI k).toUInt32 &&& Int32.toUInt32 31)).toInt32
def jb1 (x : Int32) : Int32 := x - (jus x 1 &&& nI 1431655765)
def jb2 (x : Int32) : Int32 := (x &&& nI 858993459) + (jus x 2 &&& nI 858993459)
def jb3 (x : Int32) : Int32 := (x + jus x 4) &&& nI 252645135
def jb4 (x : Int32) : Int32 := x + jus x 8
def jb5 (x : Int32) : Int32 := x + jus x 16
def jb6 (x : Int32) : Int32 := x &&& nI 63
theorem jus_am : ∀ k, k < 32 → (((nI k).toUInt32 &&& Int32.toUInt32 31).toBitVec % 32).toNat = k := by decide +kernel
theorem jus_n {n k : Nat} (hn : n < 2 ^ 32) (hk : k < 32) : jus (nI n) k = nI (n / 2 ^ k) := pk_ushrN hn (nI k) k (jus_am k hk)
theorem jb_eq {n : Nat} (h : n < 2 ^ 32) : jb6 (jb5 (jb4 (jb3 (jb2 (jb1 (nI n)))))) = nI (pcN 32 n) := by
  obtain ⟨a, b, c, d, rfl, ha, hb, hc, hd⟩ := b4_of h
  obtain ⟨h1, h2, h3, h4, h5⟩ := bc_all ha hb hc hd
  have A := pq3 a ha
  have B := pq3 b hb
  have C := pq3 c hc
  have D := pq3 d hd
  have e1 : jb1 (nI (b4 a b c d)) = nI (bc1 (b4 a b c d)) := by
    unfold jb1 bc1
    rw [jus_n h (by decide), nI_and, nI_sub h1]
  have l2 : bc1 (b4 a b c d) < 2 ^ 32 := by
    rw [h2]; unfold b4; omega
  have e2 : jb2 (nI (bc1 (b4 a b c d))) = nI (bc2 (bc1 (b4 a b c d))) := by
    unfold jb2 bc2
    rw [jus_n l2 (by decide), nI_and, nI_and, nI_add]
  have l3 : bc2 (bc1 (b4 a b c d)) < 2 ^ 32 := by
    rw [h3]; unfold b4; omega
  have e3 : jb3 (nI (bc2 (bc1 (b4 a b c d)))) = nI (bc3 (bc2 (bc1 (b4 a b c d)))) := by
    unfold jb3 bc3
    rw [jus_n l3 (by decide), nI_add, nI_and]
  have l4 : bc3 (bc2 (bc1 (b4 a b c d))) < 134744073 := by
    rw [h4]; unfold b4; omega
  rw [e1, e2, e3, ← h5]
  generalize bc3 (bc2 (bc1 (b4 a b c d))) = q at l4
  have e4 : jb4 (nI q) = nI (bc4 q) := by
    unfold jb4 bc4
    rw [jus_n (by omega) (by decide), nI_add]
  have l5 : bc4 q < 2 ^ 30 := by unfold bc4; omega
  have e5 : jb5 (nI (bc4 q)) = nI (bc5 (bc4 q)) := by
    unfold jb5 bc5
    rw [jus_n (by omega) (by decide), nI_add]
  have l6 : bc5 (bc4 q) < 2 ^ 32 := by unfold bc5; omega
  rw [e4, e5]
  exact pk_andN l6 (m := nI 63) 6 (by decide)
theorem k_bitCount {n : Nat} (h : n < 2 ^ 32) {Q : Option AV → HP} {c : Nat} {mr : MR} {mi : MI} {ml : ML} (hQ : Q (some (vI (nI (pcN 32 n)))) c mr mi ml) : Ok m_ji_bitCount 0 0 [vI (nI n)] Q c mr mi ml := by
  refine ok_wq inlT 200 rfl rfl ?_
  show Q (some (vI (jb6 (jb5 (jb4 (jb3 (jb2 (jb1 (nI n)))))))))  c mr mi ml
  rw [jb_eq h]
  exact hQ
theorem nI_ne0' {n : Nat} (h : n < 2 ^ 32) (h0 : nI n = 0) : n = 0 := by
  have := congrArg (fun x : Int32 => x.toBitVec.toNat) h0
  simp only [nI, Int32.toBitVec_ofNat', BitVec.toNat_ofNat] at this
  rw [Nat.mod_eq_of_lt h] at this
  exact this
theorem k_many_loop {n w : Nat} {Q : Option AV → HP} {k s c : Nat} {mr : MR} {mi : MI} {ml : ML} (hQ : Q (some (vI (nI w))) c mr mi ml) : ∀ b r a : Nat, r < b → r < 2 ^ 32 → a + pcN 32 r = w → At m_r_many 4 [some (vI (nI n)), some (vI (nI a)), some (vI (nI r))] [] k s (Zq Q) c mr mi ml := by
  intro b
  induction b with
  | zero => intro r a h; omega
  | succ b ih =>
    intro r a hb hr ha
    refine at_wq inlT 200 rfl ?_
    refine ⟨fun g => ?_, fun g => ?_⟩
    · have := nI_ne0' hr g
      subst this
      rw [pcN_0] at ha
      have e : a = w := ha
      rw [e]
      exact hQ
    · have h0 : 0 < r := by
        rcases Nat.eq_zero_or_pos r with z | z
        · subst z; exact absurd nI_0 g
        · exact z
      have L := low_off 32 r hr h0
      have := ih (r &&& (r - 1)) (a + 1) (by omega) (by omega) (by omega)
      rw [← nI_and, ← nI_sub h0, ← nI_add] at this
      exact this
theorem k_many {n : Nat} (h : n < 2 ^ 32) {Q : Option AV → HP} {c : Nat} {mr : MR} {mi : MI} {ml : ML} (hQ : Q (some (vI (nI (pcN 32 n)))) c mr mi ml) : Ok m_r_many 0 0 [vI (nI n)] Q c mr mi ml := by
  refine ok_wq inlT 200 rfl rfl ?_
  exact k_many_loop hQ (n + 1) n 0 (Nat.lt_succ_self n) h (Nat.zero_add _)
