/-! ===== what a method, a stretch of code comes to ===== -/
abbrev RX : Type := Option (Nat × Nat × Nat)
/-- method y, called with these, answers rv and leaves mi', ml' -/
def Ret (y : Nat) (as : List AV) (rv : Option AV) (c : Nat) (mr : MR) (mi : MI) (ml : ML) (mi' : MI) (ml' : ML) : Prop := ∀ Q : Option AV → HP, Q rv c mr mi' ml' → Ok y 0 0 as Q c mr mi ml
/-- method y from pc on -/
def Go (y pc : Nat) (ls : eLS) (st : List AV) (rv : Option AV) (c : Nat) (mr : MR) (mi : MI) (ml : ML) (mi' : MI) (ml' : ML) : Prop := ∀ Q : Option AV → HP, Q rv c mr mi' ml' → At y pc ls st 0 0 (Zq Q) c mr mi ml
def Fin (r0 : Option AV) (mi0 : MI) (ml0 : ML) (rv : Option AV) (mi' : MI) (ml' : ML) : Prop := rv = r0 ∧ mi' = mi0 ∧ ml' = ml0
theorem Fin.use {r0 rv : Option AV} {mi0 mi' : MI} {ml0 ml' : ML} {Q : Option AV → HP} {c : Nat} {mr : MR} (h : Fin r0 mi0 ml0 rv mi' ml') (hQ : Q rv c mr mi' ml') : Q r0 c mr mi0 ml0 := by
  obtain ⟨rfl, rfl, rfl⟩ := h
  exact hQ
theorem Fin.rf {r0 : Option AV} {mi0 : MI} {ml0 : ML} : Fin r0 mi0 ml0 r0 mi0 ml0 := ⟨rfl, rfl, rfl⟩
def usr (x y : Int32) : Int32 := (x.toUInt32 >>> (y.toUInt32 &&& Int32.toUInt32 31)).toInt32
def rmI (x y : Int32) : Int32 := x - x / y * y
def rmL (x y : Int64) : Int64 := x - x / y * y
theorem lgc_eq (x y : Int64) : lg_cmp x y = 0 ↔ x = y := by
  unfold lg_cmp
  by_cases h : x > y
  · rw [if_pos h]
    refine ⟨fun z => absurd z (by decide), fun z => ?_⟩
    rw [z] at h; exact absurd h (Int64.lt_irrefl)
  · rw [if_neg h]
    by_cases h2 : x = y
    · rw [if_pos h2]; exact ⟨fun _ => h2, fun _ => rfl⟩
    · rw [if_neg h2]; exact ⟨fun z => absurd z (by decide), fun z => absurd z h2⟩
theorem lgc_lt (x y : Int64) : lg_cmp x y < 0 ↔ x < y := by
  unfold lg_cmp
  by_cases h : x > y
  · rw [if_pos h]
    refine ⟨fun z => absurd z (by decide), fun z => absurd (Int64.lt_trans h z) (Int64.lt_irrefl)⟩
  · rw [if_neg h]
    by_cases h2 : x = y
    · rw [if_pos h2, h2]; exact ⟨fun z => absurd z (by decide), fun z => absurd z (Int64.lt_irrefl)⟩
    · rw [if_neg h2]
      refine ⟨fun _ => ?_, fun _ => by decide⟩
      rw [Int64.lt_iff_toInt_lt]
      have h3 : ¬ y < x := h
      rw [Int64.lt_iff_toInt_lt] at h3
      have h4 : x.toInt ≠ y.toInt := fun z => h2 (Int64.toInt_inj.mp z)
      omega
theorem lgc_gt (x y : Int64) : 0 < lg_cmp x y ↔ y < x := by
  unfold lg_cmp
  by_cases h : x > y
  · rw [if_pos h]; exact ⟨fun _ => h, fun _ => by decide⟩
  · rw [if_neg h]
    by_cases h2 : x = y
    · rw [if_pos h2]; exact ⟨fun z => absurd z (by decide), fun z => absurd z h⟩
    · rw [if_neg h2]; exact ⟨fun z => absurd z (by decide), fun z => absurd z h⟩
theorem i64_nlt {x y : Int64} : ¬ x < y ↔ y ≤ x := by
  rw [Int64.lt_iff_toInt_lt, Int64.le_iff_toInt_le]; omega
theorem i32_nlt {x y : Int32} : ¬ x < y ↔ y ≤ x := by
  rw [Int32.lt_iff_toInt_lt, Int32.le_iff_toInt_le]; omega
theorem lgc_ge (x y : Int64) : 0 ≤ lg_cmp x y ↔ y ≤ x := by
  rw [← i32_nlt, lgc_lt, i64_nlt]
theorem lgc_le (x y : Int64) : lg_cmp x y ≤ 0 ↔ x ≤ y := by
  rw [← i32_nlt, lgc_gt, i64_nlt]
/-- fewer locals known -/
def lsLe : eLS → eLS → Prop
  | [], _ => True
  | none :: r, _ :: r' => lsLe r r'
  | some v :: r, x :: r' => x = some v ∧ lsLe r r'
  | _ :: _, [] => False
theorem lsLe_lg : ∀ (a b : eLS), lsLe a b → ∀ (i : Nat) (v : AV), lg a i = some v → lg b i = some v
  | [], _, _, i, v, h => by cases i <;> cases h
  | none :: r, [], h, _, _, _ => h.elim
  | some _ :: r, [], h, _, _, _ => h.elim
  | none :: r, x :: r', h, i, v, hv => by
    cases i with
    | zero => cases hv
    | succ i => exact lsLe_lg r r' h i v hv
  | some w :: r, x :: r', h, i, v, hv => by
    cases i with
    | zero =>
      have : some w = some v := hv
      show x = some v
      rw [h.1]; exact this
    | succ i => exact lsLe_lg r r' h.2 i v hv
theorem At.le {y pc : Nat} {ls ls' : eLS} {t : List AV} {k s : Nat} {Z : FT} {c : Nat} {mr : MR} {mi : MI} {ml : ML} (h : lsLe ls' ls) (K : At y pc ls' t k s Z c mr mi ml) : At y pc ls t k s Z c mr mi ml := by
  intro l p e S m args below meth cd H locs cells slots mc ms lsC X D aC B sh0 sh hfl hC hR hsh hst hL hS hc hs
  exact K l p e S m args below meth cd H locs cells slots mc ms lsC X D aC B sh0 sh hfl hC hR hsh hst ⟨hL.1, hL.2.1, fun i v hv => hL.2.2 i v (lsLe_lg ls' ls h i v hv)⟩ hS hc hs
theorem Go.le {y pc : Nat} {ls ls' : eLS} {st : List AV} {rv : Option AV} {c : Nat} {mr : MR} {mi mi' : MI} {ml ml' : ML} (h : lsLe ls' ls) (K : Go y pc ls' st rv c mr mi ml mi' ml') : Go y pc ls st rv c mr mi ml mi' ml' := fun Q hQ => At.le h (K Q hQ)
theorem at_ldcSw {y pc : Nat} {ls : eLS} {t : List AV} {k s : Nat} {Q : FT} {c : Nat} {mr : MR} {mi : MI} {ml : ML} {n i : Nat} {tx : String} (hd : decode (mCd y) pc = .ok (.ldc_w n, 3)) (hw : ((mNm y).cls, n, tx, i) ∈ ldT) (hi : i < nStr) (K : At y (pc + 3) ls (.inr (.inr (some (100, 0, i))) :: t) k s Q c mr mi ml) : At y pc ls t k s Q c mr mi ml := by
  intro l p e S m args below meth cd H locs cells slots mc ms lsC X D aC B sh0 sh hfl hC hR hsh hst hL hS hc hs
  have k := K l p e S m args below meth cd H locs cells slots mc ms lsC X D aC B sh0 sh hfl hC hR hsh (cn_ok (show okq X sh (100, 0, i) from hi) hst) hL hS hc hs
  have hZ := hC.ext.lds _ hw
  intro T hT Xs
  obtain ⟨t', a1, b1⟩ := k T hT Xs
  exact ⟨t', Xs.ldcStringW hC.1 hC.own (text := tx) hZ.1 hZ.2 (g := F0 m pc lsC (t.map (cv X B))) rfl (by rw [hC.2.1]; exact hd) t' a1, b1⟩
theorem row_in {i : Int32} {t : Nat} (e : i = nI t) (h : t < 12) : vp_in i 12 := by rw [e]; exact vp_in_nI h (by decide)
theorem row_tab : ∀ t, t < 12 → (MRt.getD 21 []).getD t none = some (1, 43, 22 + t) := by decide
theorem row_mr {nb db : Nat} {by_ rs : RX} {i : Int32} {t : Nat} (e : i = nI t) (h : t < 12) : MRc nb db by_ rs 21 i.toNatClampNeg = some (1, 43, 22 + t) := by
  rw [e, nI_clamp (by omega)]
  exact row_tab t h
theorem At.wk {y pc : Nat} {ls ls' : eLS} {t : List AV} {k s : Nat} {Z : FT} {c : Nat} {mr : MR} {mi : MI} {ml : ML} (K : At y pc ls' t k s Z c mr mi ml) (h : lsLe ls' ls) : At y pc ls t k s Z c mr mi ml := At.le h K
