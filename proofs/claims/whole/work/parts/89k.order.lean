/-! ===== orders of squares ===== -/
def isPr (n : Nat) : Prop := n = 3 ∨ n = 7 ∨ n = 11 ∨ n = 19 ∨ n = 23 ∨ n = 31
section
variable {nb db nc dc : Nat} {by_ rs : RX} {c : Nat} {mi mj : MI} {ml mk : ML} {t : Nat → Nat} {e p a w f : Nat} {x y z : Int32} {rv : Option AV} {mi' mj' : MI} {ml' mk' : ML}
theorem ro_68 (d : Ret m_r_next [vR 19 0 48] none c (MRc nb db by_ rs) mj mk mj' mk') : Go m_r_readOrder 68 [some (vR 19 0 48), some (vI x)] [] (some (vI x)) c (MRc nb db by_ rs) mj mk mj' mk' := by
  intro Q hQ
  refine at_wq inlT 400 rfl ?_
  refine ⟨0, 0, Nat.zero_le _, Nat.zero_le _, d _ ?_⟩
  exact hQ
theorem ro_71 (h38 : mj 48 38 = nI 0) (d : Ret m_r_next [vR 19 0 48] none c (MRc nb db by_ rs) (u2 (u2 mj 48 38 (nI 2)) 48 35 (nI 0)) mk mj' mk') : Go m_r_readOrder 71 [some (vR 19 0 48), some (vI x)] [] (some (vI x)) c (MRc nb db by_ rs) mj mk mj' mk' := by
  intro Q hQ
  refine at_wq inlT 400 rfl ?_
  refine ⟨fun g => absurd h38 g, fun _ => ?_⟩
  refine ⟨fun g => absurd h38 g, fun _ => ?_⟩
  refine ⟨0, 0, Nat.zero_le _, Nat.zero_le _, d _ ?_⟩
  exact hQ
theorem ro_p {n : Nat} (hn : isPr n) (hx : x = nI n) (K : Go m_r_readOrder 68 [some (vR 19 0 48), some (vI x)] [] rv c (MRc nb db by_ rs) mj mk mj' mk') : Go m_r_readOrder 9 [some (vR 19 0 48), some (vI x)] [vI x] rv c (MRc nb db by_ rs) mj mk mj' mk' := by
  intro Q hQ
  have ho : Op.lookupswitch.offset (#[((3 : Int), (59 : Int)), (7, 59), (11, 59), (19, 59), (23, 59), (31, 59)] : Array (Int × Int)).toList 62 x.toInt = 59 := by
    rw [hx]
    rcases hn with h | h | h | h | h | h <;> subst h <;> decide
  exact at_lkp dc_rorder (by decide) ho (show ((9 : Nat) : Int) + 59 = ((68 : Nat) : Int) by decide) (K Q hQ)
theorem ro_n {n : Nat} (hn : ¬ isPr n) (h31 : n < 2 ^ 31) (hx : x = nI n) (K : Go m_r_readOrder 71 [some (vR 19 0 48), some (vI x)] [] rv c (MRc nb db by_ rs) mj mk mj' mk') : Go m_r_readOrder 9 [some (vR 19 0 48), some (vI x)] [vI x] rv c (MRc nb db by_ rs) mj mk mj' mk' := by
  intro Q hQ
  have ne : ∀ q : Nat, q < 2 ^ 31 → n ≠ q → ¬ x = nI q := fun q hq h z => h (by rw [hx, nI_eq h31 hq] at z; exact z)
  have n3 := ne 3 (by decide) (fun h => hn (Or.inl h))
  have n7 := ne 7 (by decide) (fun h => hn (Or.inr (Or.inl h)))
  have n11 := ne 11 (by decide) (fun h => hn (Or.inr (Or.inr (Or.inl h))))
  have n19 := ne 19 (by decide) (fun h => hn (Or.inr (Or.inr (Or.inr (Or.inl h)))))
  have n23 := ne 23 (by decide) (fun h => hn (Or.inr (Or.inr (Or.inr (Or.inr (Or.inl h))))))
  have n31 := ne 31 (by decide) (fun h => hn (Or.inr (Or.inr (Or.inr (Or.inr (Or.inr h))))))
  have ho : Op.lookupswitch.offset (#[((3 : Int), (59 : Int)), (7, 59), (11, 59), (19, 59), (23, 59), (31, 59)] : Array (Int × Int)).toList 62 x.toInt = 62 := by
    show Op.lookupswitch.offset [((3 : Int), (59 : Int)), (7, 59), (11, 59), (19, 59), (23, 59), (31, 59)] 62 x.toInt = 62
    rw [lv_osw n3 (by decide), lv_osw n7 (by decide), lv_osw n11 (by decide), lv_osw n19 (by decide), lv_osw n23 (by decide), lv_osw n31 (by decide)]
    rfl
  exact at_lkp dc_rorder (by decide) ho (show ((9 : Nat) : Int) + 62 = ((71 : Nat) : Int) by decide) (K Q hQ)
theorem D_order (h : DR f mj) : Ret m_r_readOrder [vR 19 0 48] (some (vI (nI 3))) c (MRc nb db by_ rs) mj mk mj mk :=
  g_r_readOrder_0 ⟨_, _, _, D_wholeAt h _ _, ro_p (Or.inl rfl) rfl (ro_68 (D_next h))⟩
theorem R_order_t (A : AT t e a mi mj mk) (h3 : tkK t e a = 3) (hp : isPr (vlN t a (tkB t e a - a))) (d : Ret m_r_next [vR 19 0 48] none c (MRc nb db by_ rs) mj mk mj' mk') : Ret m_r_readOrder [vR 19 0 48] (some (vI (nI (vlN t a (tkB t e a - a))))) c (MRc nb db by_ rs) mj mk mj' mk' := by
  have hb : 3 ≤ vlN t a (tkB t e a - a) ∧ vlN t a (tkB t e a - a) ≤ 31 := by unfold isPr at hp; omega
  rcases R_wholeAt (nb := nb) (db := db) (by_ := by_) (rs := rs) (c := c) (lo := 3) (hi := 31) (by decide) (by decide) A with ⟨-, -, -, W⟩ | ⟨-, r, W⟩ | ⟨n3, W⟩
  · exact g_r_readOrder_0 ⟨_, _, _, W, ro_p hp rfl (ro_68 d)⟩
  · exact absurd hb r
  · exact absurd h3 n3
theorem R_order_f (A : AT t e a mi mj mk) (h3 : tkK t e a = 3) (hp : ¬ isPr (vlN t a (tkB t e a - a))) : ∃ v, Ret m_r_readOrder [vR 19 0 48] (some (vI v)) c (MRc nb db by_ rs) mj mk (u2 (u2 mj 48 38 (nI 2)) 48 35 (nI 0)) mk := by
  have bd := (tk_whole h3).2
  have D := DR.mk0 (mj := mj) (f := 2) (by decide) (by decide)
  rcases R_wholeAt (nb := nb) (db := db) (by_ := by_) (rs := rs) (c := c) (lo := 3) (hi := 31) (by decide) (by decide) A with ⟨-, -, -, W⟩ | ⟨-, r, W⟩ | ⟨n3, W⟩
  · exact ⟨_, g_r_readOrder_0 ⟨_, _, _, W, ro_n hp (by omega) rfl (ro_71 A.2.2.2.2.2.1 (D_next D))⟩⟩
  · exact ⟨_, g_r_readOrder_0 ⟨_, _, _, W, ro_p (Or.inl rfl) rfl (ro_68 (D_next D))⟩⟩
  · exact absurd h3 n3
theorem R_order_n (A : AT t e a mi mj mk) (h3 : tkK t e a ≠ 3) : Ret m_r_readOrder [vR 19 0 48] (some (vI (nI 3))) c (MRc nb db by_ rs) mj mk (u2 (u2 mj 48 38 (nI 1)) 48 35 (nI 0)) mk := by
  have D := DR.mk0 (mj := mj) (f := 1) (by decide) (by decide)
  rcases R_wholeAt (nb := nb) (db := db) (by_ := by_) (rs := rs) (c := c) (lo := 3) (hi := 31) (by decide) (by decide) A with ⟨k3, -, -, W⟩ | ⟨k3, r, W⟩ | ⟨n3, W⟩
  · exact absurd k3 h3
  · exact absurd k3 h3
  · exact g_r_readOrder_0 ⟨_, _, _, W, ro_p (Or.inl rfl) rfl (ro_68 (D_next D))⟩
/-- the class's look at an order -/
theorem prC_0 : prC 0 = nI 3 ∧ prC 1 = nI 7 ∧ prC 2 = nI 11 ∧ prC 3 = nI 19 ∧ prC 4 = nI 23 ∧ prC 5 = nI 31 := by decide
theorem R_prime_t {n : Nat} (hp : isPr n) (hx : x = nI n) : Ret m_rd_isPrimeOfBench [vI x] (some (vI (nI 1))) c (MRc nb db (some (0, 800, 3)) rs) mi ml mi ml := by
  refine g_rd_isPrimeOfBench_0 ?_
  have go : ∀ q j, 6 - j = q → (∃ j0, j ≤ j0 ∧ j0 < 6 ∧ prC j0 = x) → ∀ l : Int32, l = nI j → Go m_rd_isPrimeOfBench 9 [some (vI x), some (vR 101 6 0), some (vI (nI 6)), some (vI l), none] [] (some (vI (nI 1))) c (MRc nb db (some (0, 800, 3)) rs) mi ml mi ml := by
    intro q
    induction q with
    | zero => intro j hq ⟨j0, h1, h2, h3⟩ l hl; omega
    | succ q ih =>
      intro j hq ⟨j0, h1, h2, h3⟩ l hl
      refine g_rd_isPrimeOfBench_9 ⟨fun z => absurd z (by rw [hl, nI_leI (by decide) (by omega)]; omega), fun _ => ⟨ixn hl (by omega) (by decide), fun z => ?_, fun _ => ⟨rfl, rfl, rfl⟩⟩⟩
      refine ih (j + 1) (by omega) ⟨j0, ?_, h2, h3⟩ _ (inc hl)
      rcases Nat.lt_or_ge j j0 with g | g
      · exact g
      · have ej : j = j0 := by omega
        rw [cln hl (by omega), ej] at z
        exact absurd h3 z
  obtain ⟨p0, p1, p2, p3, p4, p5⟩ := prC_0
  refine go 6 0 rfl ?_ _ rfl
  rw [hx]
  rcases hp with h | h | h | h | h | h <;> rw [h]
  · exact ⟨0, by decide, by decide, p0⟩
  · exact ⟨1, by decide, by decide, p1⟩
  · exact ⟨2, by decide, by decide, p2⟩
  · exact ⟨3, by decide, by decide, p3⟩
  · exact ⟨4, by decide, by decide, p4⟩
  · exact ⟨5, by decide, by decide, p5⟩
theorem R_prime_f {n : Nat} (hp : ¬ isPr n) (hn : n < 2 ^ 31) (hx : x = nI n) : Ret m_rd_isPrimeOfBench [vI x] (some (vI (nI 0))) c (MRc nb db (some (0, 800, 3)) rs) mi ml mi ml := by
  refine g_rd_isPrimeOfBench_0 ?_
  have no : ∀ j, j < 6 → ¬ prC j = x := by
    obtain ⟨p0, p1, p2, p3, p4, p5⟩ := prC_0
    have ne : ∀ q : Nat, q < 2 ^ 31 → n ≠ q → ¬ nI q = x := fun q hq h z => h (by rw [hx, nI_eq hq hn] at z; exact z.symm)
    unfold isPr at hp
    intro j hj
    have : j = 0 ∨ j = 1 ∨ j = 2 ∨ j = 3 ∨ j = 4 ∨ j = 5 := by omega
    rcases this with h | h | h | h | h | h <;> rw [h]
    · rw [p0]; exact ne 3 (by decide) (by omega)
    · rw [p1]; exact ne 7 (by decide) (by omega)
    · rw [p2]; exact ne 11 (by decide) (by omega)
    · rw [p3]; exact ne 19 (by decide) (by omega)
    · rw [p4]; exact ne 23 (by decide) (by omega)
    · rw [p5]; exact ne 31 (by decide) (by omega)
  have go : ∀ j, j ≤ 6 → ∀ l : Int32, l = nI j → Go m_rd_isPrimeOfBench 9 [some (vI x), some (vR 101 6 0), some (vI (nI 6)), some (vI l), none] [] (some (vI (nI 0))) c (MRc nb db (some (0, 800, 3)) rs) mi ml mi ml := by
    refine upto (fun l hl => ?_) (fun j hj ih l hl => ?_)
    · exact g_rd_isPrimeOfBench_9 ⟨fun _ => ⟨rfl, rfl, rfl⟩, fun z => absurd (by rw [hl]; decide) z⟩
    · exact g_rd_isPrimeOfBench_9 ⟨fun z => absurd z (by rw [hl, nI_leI (by decide) (by omega)]; omega), fun _ => ⟨ixn hl (by omega) (by decide), fun _ => ih _ (inc hl), fun z => absurd (by rw [cln hl (by omega)] at z; exact z) (no j hj)⟩⟩
  exact go 0 (by decide) _ rfl
end
