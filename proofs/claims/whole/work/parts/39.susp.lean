/-! ===== suspects, in whole numbers ===== -/
def bQ (q s k : Nat) : Nat := if q = 0 then bt s k else if q % 2 = 1 then (if k = (q - 1) / 2 then 1 else bt s k) else (if k = (q - 1) / 2 then 0 else bt s k)
/-- the light of colour k by suspect q -/
def xB (σ : SG) (k : Nat) : Int := (backZ σ k).tdiv (σ 0 5 + 1)
def xQ (σ : SG) (q k : Nat) : Int := if q = 0 then xB σ k else if q % 2 = 1 then (if k = (q - 1) / 2 then (backZ σ k).tdiv 2 else (backZ σ k - backZ σ ((q - 1) / 2)).tdiv (σ 0 5 + 1)) else (if k = (q - 1) / 2 then mon σ - (sumZ (xB σ) (σ 0 5).toNat - xB σ k) else xB σ k)
def Dv (σ : SG) (q : Nat) : Prop := ∀ k : Nat, (k : Int) < σ 0 5 → (if q = 0 then (backZ σ k).tmod (σ 0 5 + 1) = 0 else if q % 2 = 1 then (if k = (q - 1) / 2 then (backZ σ k).tmod 2 = 0 else (backZ σ k - backZ σ ((q - 1) / 2)).tmod (σ 0 5 + 1) = 0) else (backZ σ k).tmod (σ 0 5 + 1) = 0)
def Rg (σ : SG) (q : Nat) : Prop := ∀ k : Nat, (k : Int) < σ 0 5 → 0 ≤ xQ σ q k ∧ xQ σ q k ≤ 9999
def Sm (σ : SG) (q : Nat) : Prop := sumZ (xQ σ q) (σ 0 5).toNat = mon σ
def rdQ (σ : SG) (q s : Nat) : Int := σ 0 7 + sumZ (fun k => (bQ q s k : Int) * xQ σ q k) (σ 0 5).toNat
def LG (σ : SG) (q : Nat) : Prop := ∀ i : Nat, (i : Int) < σ 0 11 → rdQ σ q (σ 5 i).toNat = σ 6 i
def PLs (σ : SG) (q : Nat) : Prop := ∀ i : Nat, (i : Int) < σ 0 5 → rdQ σ q (plS σ i) = rdg σ i
def SHs (σ : SG) (q : Nat) : Prop := q ≠ 0 → q % 2 = 0 → backZ σ ((q - 1) / 2) = 0
/-- suspect q -/
def SP (σ : SG) (q : Nat) : Prop := Dv σ q ∧ Rg σ q ∧ Sm σ q ∧ SHs σ q ∧ LG σ q
theorem td_m {a d : Int} (h : a.tmod d = 0) : a = d * a.tdiv d := by
  have := Int.mul_tdiv_add_tmod a d
  omega
theorem sum_but (f g : Nat → Int) {j : Nat} : ∀ n : Nat, (∀ k, k ≠ j → f k = g k) → sumZ f n = sumZ g n + (if j < n then f j - g j else 0)
  | 0, _ => by simp [sumZ]
  | n + 1, h => by
    show sumZ f n + f n = sumZ g n + g n + _
    rw [sum_but f g n h]
    by_cases e : j = n
    · subst e
      rw [if_neg (by omega), if_pos (by omega)]; omega
    · rw [h n (fun z => e z.symm)]
      by_cases hl : j < n
      · rw [if_pos hl, if_pos (by omega)]; omega
      · rw [if_neg hl, if_neg (by omega)]; omega
theorem mulc {a b t : Int} (ht : t ≠ 0) (h : t * a = t * b) : a = b := Int.eq_of_mul_eq_mul_left ht h
theorem pls_iff {σ : SG} (hW : WF σ) (hr : σ 0 0 = 1) (hl : los σ = 0) {q : Nat} (hq : (q : Int) ≤ 2 * σ 0 5) (hD : Dv σ q) : PLs σ q ↔ SHs σ q := by
  obtain ⟨n, hn, h31⟩ := wf_n hW
  have en : (σ 0 5).toNat = n := by omega
  have hT : σ 0 5 + 1 ≠ 0 := by have := hW.nn; omega
  obtain ⟨-, h0⟩ := net_all hW hn hl
  have ny : ∀ i, i < n → rdg σ i = σ 0 7 + netZ σ i := fun i hi => by
    unfold netZ; rw [if_neg (h0 i hi)]; omega
  have red : PLs σ q ↔ ∀ i, i < n → sumZ (fun k => (bQ q (plS σ i) k : Int) * xQ σ q k) n = netZ σ i := by
    constructor
    · intro h i hi
      have := h i (by omega)
      unfold rdQ at this
      rw [en, ny i hi] at this
      omega
    · intro h i hi
      unfold rdQ
      rw [en, ny i (by omega), h i (by omega)]
  rw [red]
  by_cases hq0 : q = 0
  · refine ⟨fun _ z => absurd hq0 z, fun _ i hi => mulc hT ?_⟩
    rw [← sq_f1 hW hr hn hl hi, ← sumZ_mul]
    refine sumZ_cg n (fun k hk => ?_)
    have hd := hD k (by omega)
    rw [if_pos hq0] at hd
    have e1 : bQ q (plS σ i) k = bt (plS σ i) k := if_pos hq0
    have e2 : xQ σ q k = xB σ k := if_pos hq0
    rw [e1, e2, Int.mul_left_comm]
    conv => rhs; rw [td_m hd]
    rfl
  · obtain ⟨j, hj, ej⟩ : ∃ j, j < n ∧ (q - 1) / 2 = j := ⟨(q - 1) / 2, by omega, rfl⟩
    by_cases ho : q % 2 = 1
    · refine ⟨fun _ _ z => by omega, fun _ i hi => mulc hT ?_⟩
      have hj2 := hD j (by omega)
      rw [if_neg hq0, if_pos ho, ej, if_pos rfl] at hj2
      have ebj := td_m hj2
      have e1 : ∀ k, k < n → (σ 0 5 + 1) * ((bQ q (plS σ i) k : Int) * xQ σ q k) = (if k = j then (σ 0 5 + 1) * (backZ σ j).tdiv 2 else sZ σ i k * (backZ σ k - backZ σ j)) := by
        intro k hk
        have hd := hD k (by omega)
        rw [if_neg hq0, if_pos ho, ej] at hd
        unfold bQ xQ
        rw [if_neg hq0, if_pos ho, if_neg hq0, if_pos ho, ej]
        by_cases e : k = j
        · rw [if_pos e, if_pos e, if_pos e, e]; simp
        · rw [if_neg e] at hd
          rw [if_neg e, if_neg e, if_neg e, Int.mul_left_comm, ← td_m hd]; rfl
      rw [← sumZ_mul, sumZ_cg n e1, sum_but (fun k => if k = j then (σ 0 5 + 1) * (backZ σ j).tdiv 2 else sZ σ i k * (backZ σ k - backZ σ j)) (fun k => sZ σ i k * (backZ σ k - backZ σ j)) n (fun k hk => if_neg hk), if_pos hj, if_pos rfl]
      have e2 : sumZ (fun k => sZ σ i k * (backZ σ k - backZ σ j)) n = sumZ (fun k => sZ σ i k * backZ σ k) n + (-backZ σ j) * sumZ (sZ σ i) n := by
        rw [← sumZ_mul, ← sumZ_add]
        refine sumZ_cg n (fun k _ => ?_)
        rw [Int.mul_sub, Int.neg_mul, Int.mul_comm (backZ σ j)]; omega
      have h1 := sq1 hW hr hn hi
      rw [e2, sq_f1 hW hr hn hl hi, Int.sub_self, Int.mul_zero, Int.sub_zero]
      generalize (backZ σ j).tdiv 2 = w at ebj ⊢
      rw [ebj, ← h1, Int.neg_mul, Int.mul_assoc 2 w, Int.mul_left_comm 2 w, Int.mul_comm w]
      omega
    · have hev : q % 2 = 0 := by omega
      have e1 : ∀ i k, k < n → (bQ q (plS σ i) k : Int) * xQ σ q k = sZ σ i k * (if k = j then 0 else xB σ k) := by
        intro i k hk
        unfold bQ xQ
        rw [if_neg hq0, if_neg ho, if_neg hq0, if_neg ho, ej]
        by_cases e : k = j
        · rw [if_pos e, if_pos e, if_pos e]; simp
        · rw [if_neg e, if_neg e, if_neg e]; rfl
      have hdk : ∀ k, k < n → backZ σ k = (σ 0 5 + 1) * xB σ k := fun k hk => by
        have hd := hD k (by omega)
        rw [if_neg hq0, if_neg ho] at hd
        exact td_m hd
      constructor
      · intro h _ _
        rw [ej]
        have := sq_f2 hW hr hn hl (z := fun k => if k = j then 0 else xB σ k) (fun i hi => by rw [← h i hi]; exact sumZ_cg n (e1 i)) hj
        rw [if_pos rfl, Int.mul_zero] at this
        exact this
      · intro h i hi
        have hbj : backZ σ j = 0 := by have := h hq0 hev; rw [ej] at this; exact this
        refine mulc hT ?_
        rw [sumZ_cg n (e1 i), ← sumZ_mul, ← sq_f1 hW hr hn hl hi]
        refine sumZ_cg n (fun k hk => ?_)
        by_cases e : k = j
        · rw [if_pos e, e, hbj]; simp
        · rw [if_neg e, Int.mul_left_comm, ← hdk k hk]
