/-! ===== a bench is read: what stands then ===== -/
def bnS (N kd dk tp : Nat) : SG := fun a k => if a = 0 then (if k = 0 then 1 else if k = 5 then (N : Int) else if k = 6 then (kd : Int) else if k = 7 then (dk : Int) else if k = 8 then (tp : Int) else 0) else 0
theorem bits_F : ∀ n, bitsOf (fun _ => false) n = 0
  | 0 => rfl
  | n + 1 => by
    show bitsOf (fun _ => false) n + (if false = true then 2 ^ n else 0) = 0
    rw [bits_F n, if_neg (by decide)]
section
variable {nb db nc dc : Nat} {mi mj : MI} {N kd dk tp : Nat}
theorem bnS_op : opB (bnS N kd dk tp) = 0 := bits_F _
theorem bnS_sh : shB (bnS N kd dk tp) = 0 := bits_F _
theorem bnS_st : stB (bnS N kd dk tp) = 0 := by unfold stB; rw [bnS_op, bnS_sh]; rfl
theorem bnS_lo : loB (bnS N kd dk tp) = 0 := rfl
theorem z_op : opB (fun _ _ => 0 : SG) = 0 := bits_F _
theorem z_sh : shB (fun _ _ => 0 : SG) = 0 := bits_F _
theorem z_st : stB (fun _ _ => 0 : SG) = 0 := by unfold stB; rw [z_op, z_sh]; rfl
theorem bnS_W (hok : bnOK kd N = true) (hdk : dk ≤ 999) (htp : tp ≤ 999999) : PW (bnS N kd dk tp) 0 0 := by
  have p0 : pcN 32 0 = 0 := pcN_0 32
  refine ⟨?_, ⟨rfl, rfl, rfl, rfl, rfl, rfl, rfl, rfl⟩, fun z => absurd (show (1 : Int) = 0 from z) (by decide), by decide, by decide, by rw [bnS_st, p0]; decide, by rw [p0]; decide, by rw [bnS_lo, p0]; decide⟩
  refine ⟨Or.inr ⟨rfl, hok, Int.natCast_nonneg N, Int.natCast_nonneg kd, Int.le_refl 0, by show (0 : Int) ≤ 12; decide⟩, ⟨Int.natCast_nonneg dk, by show (dk : Int) ≤ 999; omega⟩, ⟨Int.natCast_nonneg tp, by show (tp : Int) ≤ 999999; omega⟩, ⟨Int.le_refl 0, ?_⟩, by show (0 : Int) ≤ 0 ∧ (0 : Int) ≤ 20; decide, Or.inl rfl, by show (0 : Int) ≤ 0 ∧ (0 : Int) ≤ 10; decide, by show (0 : Int) ≤ 0 ∧ (0 : Int) ≤ 800; decide, by show (0 : Int) ≤ 0 ∧ (0 : Int) ≤ 5; decide, fun j => by show (0 : Int) ≤ 0 ∧ (0 : Int) ≤ 9999; decide, fun j => Or.inl rfl, fun j => by show (-99 : Int) ≤ 0 ∧ (0 : Int) ≤ 99; decide, fun i hi => ?_, fun j => by show (0 : Int) ≤ 0 ∧ (0 : Int) ≤ 255; decide⟩
  · show (0 : Int) < 2 ^ N
    rw [p2Z]
    have := Nat.two_pow_pos N
    omega
  · have hi : (i : Int) < 0 := hi
    omega
theorem P_bench (hd : db = 5 ∨ db = 43) (hN31 : N ≤ 31) (P : PDc (fun _ _ => 0) 0 0 db mi) (R : PDr (fun _ _ => 0) 0 0 mj) {m3 m4 : MI} (g0 : m3 db 0 = nI N) (g1 : m3 db 1 = nI kd) (g2 : m3 db 2 = nI dk) (g3 : m3 db 3 = nI tp) (gk : ∀ k, 4 ≤ k → m3 db k = mi db k) (gp : ∀ q, q < N → m3 (db + 1) q = nI (plN kd N q)) (gc : ∀ b, b ≠ 4 → b ≠ db → b ≠ db + 1 → m3 b = mi b) (h10 : m3 4 10 = mi 4 10) (h11 : m3 4 11 = mi 4 11) (f2 : ∀ b, b ≠ 48 → m4 b = mj b) (f3 : ∀ k, k < 34 → m4 48 k = mj 48 k) :
    PDc (bnS N kd dk tp) 0 0 db m3 ∧ PDr (bnS N kd dk tp) 0 0 (u2 (u2 (u2 (u2 m4 48 13 (nI N)) 48 14 (nI kd)) 48 15 (nI dk)) 48 16 (nI tp)) := by
  obtain ⟨⟨a1, a2, a3, a4, a5, a6, a7, a8, a9, a10, a11, a12⟩, b, c1, c2⟩ := P
  obtain ⟨r1, r2, r3, r4, r5, r6, r7, r8, r9, s1, s2, s3, s4⟩ := R
  rw [z_op] at a6
  rw [z_sh] at a7
  rw [z_st] at r4 r8
  have g : ∀ k, k < 34 → 16 < k → (u2 (u2 (u2 (u2 m4 48 13 (nI N)) 48 14 (nI kd)) 48 15 (nI dk)) 48 16 (nI tp)) 48 k = mj 48 k := fun k hk h16 => by rw [u2_ne2 _ _ (Or.inr (by omega)), u2_ne2 _ _ (Or.inr (by omega)), u2_ne2 _ _ (Or.inr (by omega)), u2_ne2 _ _ (Or.inr (by omega)), f3 k hk]
  have go : ∀ b, b ≠ 48 → (u2 (u2 (u2 (u2 m4 48 13 (nI N)) 48 14 (nI kd)) 48 15 (nI dk)) 48 16 (nI tp)) b = mj b := fun b hb => by rw [u2_o _ _ hb, u2_o _ _ hb, u2_o _ _ hb, u2_o _ _ hb, f2 b hb]
  refine ⟨⟨⟨g0, g1, g2, g3, ?_, ?_, ?_, ?_, ?_, ?_, ?_, ?_⟩, fun k hk => ?_, ?_, ?_⟩, ?_, fun _ => ⟨?_, ?_, ?_⟩, ?_, ?_, ?_, ?_, ?_, ?_, ?_, ?_, ?_, ?_, ?_⟩
  · rw [gk 4 (by decide)]; exact a5
  · rw [gk 5 (by decide), bnS_op]; exact a6
  · rw [gk 6 (by decide), bnS_sh]; exact a7
  · rw [gk 7 (by decide)]; exact a8
  · intro i hi
    have hi : (i : Int) < (N : Int) := hi
    exact gp i (by omega)
  · intro i hi
    have hi : (i : Int) < (N : Int) := hi
    rw [gc (db + 2) (by omega) (by omega) (by omega)]; exact (b i (by omega)).1
  · intro i hi
    have hi : (i : Int) < (N : Int) := hi
    rw [gc (db + 3) (by omega) (by omega) (by omega)]; exact (b i (by omega)).2
  · intro i hi
    have hi : (i : Int) < 0 := hi
    omega
  · rw [gc (db + 2) (by omega) (by omega) (by omega), gc (db + 3) (by omega) (by omega) (by omega)]; exact b k hk
  · rw [h10]; exact c1
  · rw [h11]; exact c2
  · rw [u2_ne2 _ _ (Or.inr (by decide)), u2_ne2 _ _ (Or.inr (by decide)), u2_ne2 _ _ (Or.inr (by decide)), u2_s]; rfl
  · rw [u2_ne2 _ _ (Or.inr (by decide)), u2_ne2 _ _ (Or.inr (by decide)), u2_s]; rfl
  · rw [u2_ne2 _ _ (Or.inr (by decide)), u2_s]; rfl
  · rw [u2_s]; rfl
  · rw [g 17 (by decide) (by decide)]; exact r3
  · rw [g 18 (by decide) (by decide), bnS_st]; exact r4
  · rw [g 19 (by decide) (by decide)]; exact r5
  · rw [g 20 (by decide) (by decide)]; exact r6
  · rw [g 21 (by decide) (by decide)]; exact r7
  · rw [g 22 (by decide) (by decide), bnS_st]; exact r8
  · rw [g 23 (by decide) (by decide)]; exact r9
  · rw [go 52 (by decide)]; exact s1
  · rw [go 53 (by decide)]; exact s2
  · rw [go 55 (by decide)]; exact s3
  · rw [go 55 (by decide)]; exact s4
end
