/-! ===== one instruction each, over At ===== -/
theorem cq_ref {X : XT} {B : Nat} (hX : X.2.2.2.2.2.2 = .null ∨ ∃ a, X.2.2.2.2.2.2 = .ref a) (q : Nat × Nat × Nat) : (∃ a, cq X B q = .ref a) ∨ cq X B q = .null := by
  unfold cq
  split
  · exact Or.inl ⟨_, rfl⟩
  split
  · exact Or.inl ⟨_, rfl⟩
  split
  · exact Or.inl ⟨_, rfl⟩
  split
  · exact Or.inl ⟨_, rfl⟩
  split
  · exact Or.inl ⟨_, rfl⟩
  rcases hX with h | ⟨a, h⟩
  · exact Or.inr h
  · exact Or.inl ⟨a, h⟩
theorem at_iadd {y pc : Nat} {ls : eLS} {t : List AV} {k s : Nat} {Q : FT} {c : Nat} {mr : MR} {mi : MI} {ml : ML} {u w : Int32} (hd : decode (mCd y) pc = .ok (.iadd, 1))  (K : At y (pc + 1) ls (.inl (u + w) :: t) k s Q c mr mi ml) : At y pc ls (.inl w :: .inl u :: t) k s Q c mr mi ml := by
  intro l p e S m args below meth cd H locs cells slots mc ms lsC X D aC B sh0 sh hfl hC hR hsh hst hL hS hc hs
  exact lv_iadd hC.1 hC.2.1 hd  (K l p e S m args below meth cd H locs cells slots mc ms lsC X D aC B sh0 sh hfl hC hR hsh (cn_ok trivial (tl2_ok hst)) hL hS hc hs)
theorem at_isub {y pc : Nat} {ls : eLS} {t : List AV} {k s : Nat} {Q : FT} {c : Nat} {mr : MR} {mi : MI} {ml : ML} {u w : Int32} (hd : decode (mCd y) pc = .ok (.isub, 1))  (K : At y (pc + 1) ls (.inl (u - w) :: t) k s Q c mr mi ml) : At y pc ls (.inl w :: .inl u :: t) k s Q c mr mi ml := by
  intro l p e S m args below meth cd H locs cells slots mc ms lsC X D aC B sh0 sh hfl hC hR hsh hst hL hS hc hs
  exact lv_isub hC.1 hC.2.1 hd  (K l p e S m args below meth cd H locs cells slots mc ms lsC X D aC B sh0 sh hfl hC hR hsh (cn_ok trivial (tl2_ok hst)) hL hS hc hs)
theorem at_imul {y pc : Nat} {ls : eLS} {t : List AV} {k s : Nat} {Q : FT} {c : Nat} {mr : MR} {mi : MI} {ml : ML} {u w : Int32} (hd : decode (mCd y) pc = .ok (.imul, 1))  (K : At y (pc + 1) ls (.inl (u * w) :: t) k s Q c mr mi ml) : At y pc ls (.inl w :: .inl u :: t) k s Q c mr mi ml := by
  intro l p e S m args below meth cd H locs cells slots mc ms lsC X D aC B sh0 sh hfl hC hR hsh hst hL hS hc hs
  exact lv_imul hC.1 hC.2.1 hd  (K l p e S m args below meth cd H locs cells slots mc ms lsC X D aC B sh0 sh hfl hC hR hsh (cn_ok trivial (tl2_ok hst)) hL hS hc hs)
theorem at_iand {y pc : Nat} {ls : eLS} {t : List AV} {k s : Nat} {Q : FT} {c : Nat} {mr : MR} {mi : MI} {ml : ML} {u w : Int32} (hd : decode (mCd y) pc = .ok (.iand, 1))  (K : At y (pc + 1) ls (.inl (u &&& w) :: t) k s Q c mr mi ml) : At y pc ls (.inl w :: .inl u :: t) k s Q c mr mi ml := by
  intro l p e S m args below meth cd H locs cells slots mc ms lsC X D aC B sh0 sh hfl hC hR hsh hst hL hS hc hs
  exact lv_iand hC.1 hC.2.1 hd  (K l p e S m args below meth cd H locs cells slots mc ms lsC X D aC B sh0 sh hfl hC hR hsh (cn_ok trivial (tl2_ok hst)) hL hS hc hs)
theorem at_ior {y pc : Nat} {ls : eLS} {t : List AV} {k s : Nat} {Q : FT} {c : Nat} {mr : MR} {mi : MI} {ml : ML} {u w : Int32} (hd : decode (mCd y) pc = .ok (.ior, 1))  (K : At y (pc + 1) ls (.inl (u ||| w) :: t) k s Q c mr mi ml) : At y pc ls (.inl w :: .inl u :: t) k s Q c mr mi ml := by
  intro l p e S m args below meth cd H locs cells slots mc ms lsC X D aC B sh0 sh hfl hC hR hsh hst hL hS hc hs
  exact lv_ior hC.1 hC.2.1 hd  (K l p e S m args below meth cd H locs cells slots mc ms lsC X D aC B sh0 sh hfl hC hR hsh (cn_ok trivial (tl2_ok hst)) hL hS hc hs)
theorem at_ixor {y pc : Nat} {ls : eLS} {t : List AV} {k s : Nat} {Q : FT} {c : Nat} {mr : MR} {mi : MI} {ml : ML} {u w : Int32} (hd : decode (mCd y) pc = .ok (.ixor, 1))  (K : At y (pc + 1) ls (.inl (u ^^^ w) :: t) k s Q c mr mi ml) : At y pc ls (.inl w :: .inl u :: t) k s Q c mr mi ml := by
  intro l p e S m args below meth cd H locs cells slots mc ms lsC X D aC B sh0 sh hfl hC hR hsh hst hL hS hc hs
  exact lv_ixor hC.1 hC.2.1 hd  (K l p e S m args below meth cd H locs cells slots mc ms lsC X D aC B sh0 sh hfl hC hR hsh (cn_ok trivial (tl2_ok hst)) hL hS hc hs)
theorem at_ishl {y pc : Nat} {ls : eLS} {t : List AV} {k s : Nat} {Q : FT} {c : Nat} {mr : MR} {mi : MI} {ml : ML} {u w : Int32} (hd : decode (mCd y) pc = .ok (.ishl, 1))  (K : At y (pc + 1) ls (.inl (u <<< (w &&& 31)) :: t) k s Q c mr mi ml) : At y pc ls (.inl w :: .inl u :: t) k s Q c mr mi ml := by
  intro l p e S m args below meth cd H locs cells slots mc ms lsC X D aC B sh0 sh hfl hC hR hsh hst hL hS hc hs
  exact lv_ishl hC.1 hC.2.1 hd  (K l p e S m args below meth cd H locs cells slots mc ms lsC X D aC B sh0 sh hfl hC hR hsh (cn_ok trivial (tl2_ok hst)) hL hS hc hs)
theorem at_ishr {y pc : Nat} {ls : eLS} {t : List AV} {k s : Nat} {Q : FT} {c : Nat} {mr : MR} {mi : MI} {ml : ML} {u w : Int32} (hd : decode (mCd y) pc = .ok (.ishr, 1))  (K : At y (pc + 1) ls (.inl (u >>> (w &&& 31)) :: t) k s Q c mr mi ml) : At y pc ls (.inl w :: .inl u :: t) k s Q c mr mi ml := by
  intro l p e S m args below meth cd H locs cells slots mc ms lsC X D aC B sh0 sh hfl hC hR hsh hst hL hS hc hs
  exact lv_ishr hC.1 hC.2.1 hd  (K l p e S m args below meth cd H locs cells slots mc ms lsC X D aC B sh0 sh hfl hC hR hsh (cn_ok trivial (tl2_ok hst)) hL hS hc hs)
theorem at_idiv {y pc : Nat} {ls : eLS} {t : List AV} {k s : Nat} {Q : FT} {c : Nat} {mr : MR} {mi : MI} {ml : ML} {u w : Int32} (hd : decode (mCd y) pc = .ok (.idiv, 1)) (hne : ¬ w = 0) (K : At y (pc + 1) ls (.inl (u / w) :: t) k s Q c mr mi ml) : At y pc ls (.inl w :: .inl u :: t) k s Q c mr mi ml := by
  intro l p e S m args below meth cd H locs cells slots mc ms lsC X D aC B sh0 sh hfl hC hR hsh hst hL hS hc hs
  exact lv_idiv hC.1 hC.2.1 hd hne (K l p e S m args below meth cd H locs cells slots mc ms lsC X D aC B sh0 sh hfl hC hR hsh (cn_ok trivial (tl2_ok hst)) hL hS hc hs)
theorem at_irem {y pc : Nat} {ls : eLS} {t : List AV} {k s : Nat} {Q : FT} {c : Nat} {mr : MR} {mi : MI} {ml : ML} {u w : Int32} (hd : decode (mCd y) pc = .ok (.irem, 1)) (hne : ¬ w = 0) (K : At y (pc + 1) ls (.inl (u - u / w * w) :: t) k s Q c mr mi ml) : At y pc ls (.inl w :: .inl u :: t) k s Q c mr mi ml := by
  intro l p e S m args below meth cd H locs cells slots mc ms lsC X D aC B sh0 sh hfl hC hR hsh hst hL hS hc hs
  exact lv_irem hC.1 hC.2.1 hd hne (K l p e S m args below meth cd H locs cells slots mc ms lsC X D aC B sh0 sh hfl hC hR hsh (cn_ok trivial (tl2_ok hst)) hL hS hc hs)
theorem at_iushr {y pc : Nat} {ls : eLS} {t : List AV} {k s : Nat} {Q : FT} {c : Nat} {mr : MR} {mi : MI} {ml : ML} {u w : Int32} (hd : decode (mCd y) pc = .ok (.iushr, 1))  (K : At y (pc + 1) ls (.inl ((u.toUInt32 >>> (w.toUInt32 &&& Int32.toUInt32 31)).toInt32) :: t) k s Q c mr mi ml) : At y pc ls (.inl w :: .inl u :: t) k s Q c mr mi ml := by
  intro l p e S m args below meth cd H locs cells slots mc ms lsC X D aC B sh0 sh hfl hC hR hsh hst hL hS hc hs
  exact lv_iushr hC.1 hC.2.1 hd rfl (K l p e S m args below meth cd H locs cells slots mc ms lsC X D aC B sh0 sh hfl hC hR hsh (cn_ok trivial (tl2_ok hst)) hL hS hc hs)
theorem at_ineg {y pc : Nat} {ls : eLS} {t : List AV} {k s : Nat} {Q : FT} {c : Nat} {mr : MR} {mi : MI} {ml : ML} {u : Int32} (hd : decode (mCd y) pc = .ok (.ineg, 1))  (K : At y (pc + 1) ls (.inl (-u) :: t) k s Q c mr mi ml) : At y pc ls (.inl u :: t) k s Q c mr mi ml := by
  intro l p e S m args below meth cd H locs cells slots mc ms lsC X D aC B sh0 sh hfl hC hR hsh hst hL hS hc hs
  exact lv_ineg hC.1 hC.2.1 hd  (K l p e S m args below meth cd H locs cells slots mc ms lsC X D aC B sh0 sh hfl hC hR hsh (cn_ok trivial (tl_ok hst)) hL hS hc hs)
theorem at_ladd {y pc : Nat} {ls : eLS} {t : List AV} {k s : Nat} {Q : FT} {c : Nat} {mr : MR} {mi : MI} {ml : ML} {u w : Int64} (hd : decode (mCd y) pc = .ok (.ladd, 1))  (K : At y (pc + 1) ls (.inr (.inl (u + w)) :: t) k s Q c mr mi ml) : At y pc ls (.inr (.inl w) :: .inr (.inl u) :: t) k s Q c mr mi ml := by
  intro l p e S m args below meth cd H locs cells slots mc ms lsC X D aC B sh0 sh hfl hC hR hsh hst hL hS hc hs
  exact lv_ladd hC.1 hC.2.1 hd  (K l p e S m args below meth cd H locs cells slots mc ms lsC X D aC B sh0 sh hfl hC hR hsh (cn_ok trivial (tl2_ok hst)) hL hS hc hs)
theorem at_lsub {y pc : Nat} {ls : eLS} {t : List AV} {k s : Nat} {Q : FT} {c : Nat} {mr : MR} {mi : MI} {ml : ML} {u w : Int64} (hd : decode (mCd y) pc = .ok (.lsub, 1))  (K : At y (pc + 1) ls (.inr (.inl (u - w)) :: t) k s Q c mr mi ml) : At y pc ls (.inr (.inl w) :: .inr (.inl u) :: t) k s Q c mr mi ml := by
  intro l p e S m args below meth cd H locs cells slots mc ms lsC X D aC B sh0 sh hfl hC hR hsh hst hL hS hc hs
  exact lv_lsub hC.1 hC.2.1 hd  (K l p e S m args below meth cd H locs cells slots mc ms lsC X D aC B sh0 sh hfl hC hR hsh (cn_ok trivial (tl2_ok hst)) hL hS hc hs)
theorem at_lmul {y pc : Nat} {ls : eLS} {t : List AV} {k s : Nat} {Q : FT} {c : Nat} {mr : MR} {mi : MI} {ml : ML} {u w : Int64} (hd : decode (mCd y) pc = .ok (.lmul, 1))  (K : At y (pc + 1) ls (.inr (.inl (u * w)) :: t) k s Q c mr mi ml) : At y pc ls (.inr (.inl w) :: .inr (.inl u) :: t) k s Q c mr mi ml := by
  intro l p e S m args below meth cd H locs cells slots mc ms lsC X D aC B sh0 sh hfl hC hR hsh hst hL hS hc hs
  exact lv_lmul hC.1 hC.2.1 hd  (K l p e S m args below meth cd H locs cells slots mc ms lsC X D aC B sh0 sh hfl hC hR hsh (cn_ok trivial (tl2_ok hst)) hL hS hc hs)
theorem at_lor {y pc : Nat} {ls : eLS} {t : List AV} {k s : Nat} {Q : FT} {c : Nat} {mr : MR} {mi : MI} {ml : ML} {u w : Int64} (hd : decode (mCd y) pc = .ok (.lor, 1))  (K : At y (pc + 1) ls (.inr (.inl (u ||| w)) :: t) k s Q c mr mi ml) : At y pc ls (.inr (.inl w) :: .inr (.inl u) :: t) k s Q c mr mi ml := by
  intro l p e S m args below meth cd H locs cells slots mc ms lsC X D aC B sh0 sh hfl hC hR hsh hst hL hS hc hs
  exact lv_lor hC.1 hC.2.1 hd  (K l p e S m args below meth cd H locs cells slots mc ms lsC X D aC B sh0 sh hfl hC hR hsh (cn_ok trivial (tl2_ok hst)) hL hS hc hs)
theorem at_ldiv {y pc : Nat} {ls : eLS} {t : List AV} {k s : Nat} {Q : FT} {c : Nat} {mr : MR} {mi : MI} {ml : ML} {u w : Int64} (hd : decode (mCd y) pc = .ok (.ldiv, 1)) (hne : ¬ w = 0) (K : At y (pc + 1) ls (.inr (.inl (u / w)) :: t) k s Q c mr mi ml) : At y pc ls (.inr (.inl w) :: .inr (.inl u) :: t) k s Q c mr mi ml := by
  intro l p e S m args below meth cd H locs cells slots mc ms lsC X D aC B sh0 sh hfl hC hR hsh hst hL hS hc hs
  exact lv_ldiv hC.1 hC.2.1 hd hne (K l p e S m args below meth cd H locs cells slots mc ms lsC X D aC B sh0 sh hfl hC hR hsh (cn_ok trivial (tl2_ok hst)) hL hS hc hs)
theorem at_lrem {y pc : Nat} {ls : eLS} {t : List AV} {k s : Nat} {Q : FT} {c : Nat} {mr : MR} {mi : MI} {ml : ML} {u w : Int64} (hd : decode (mCd y) pc = .ok (.lrem, 1)) (hne : ¬ w = 0) (K : At y (pc + 1) ls (.inr (.inl (u - u / w * w)) :: t) k s Q c mr mi ml) : At y pc ls (.inr (.inl w) :: .inr (.inl u) :: t) k s Q c mr mi ml := by
  intro l p e S m args below meth cd H locs cells slots mc ms lsC X D aC B sh0 sh hfl hC hR hsh hst hL hS hc hs
  exact lv_lrem hC.1 hC.2.1 hd hne (K l p e S m args below meth cd H locs cells slots mc ms lsC X D aC B sh0 sh hfl hC hR hsh (cn_ok trivial (tl2_ok hst)) hL hS hc hs)
theorem at_lneg {y pc : Nat} {ls : eLS} {t : List AV} {k s : Nat} {Q : FT} {c : Nat} {mr : MR} {mi : MI} {ml : ML} {u : Int64} (hd : decode (mCd y) pc = .ok (.lneg, 1))  (K : At y (pc + 1) ls (.inr (.inl (-u)) :: t) k s Q c mr mi ml) : At y pc ls (.inr (.inl u) :: t) k s Q c mr mi ml := by
  intro l p e S m args below meth cd H locs cells slots mc ms lsC X D aC B sh0 sh hfl hC hR hsh hst hL hS hc hs
  exact lv_lneg hC.1 hC.2.1 hd  (K l p e S m args below meth cd H locs cells slots mc ms lsC X D aC B sh0 sh hfl hC hR hsh (cn_ok trivial (tl_ok hst)) hL hS hc hs)
theorem at_lshl {y pc : Nat} {ls : eLS} {t : List AV} {k s : Nat} {Q : FT} {c : Nat} {mr : MR} {mi : MI} {ml : ML} {u : Int64} {w : Int32} (hd : decode (mCd y) pc = .ok (.lshl, 1))  (K : At y (pc + 1) ls (.inr (.inl (u <<< (w.toInt64 &&& 63))) :: t) k s Q c mr mi ml) : At y pc ls (.inl w :: .inr (.inl u) :: t) k s Q c mr mi ml := by
  intro l p e S m args below meth cd H locs cells slots mc ms lsC X D aC B sh0 sh hfl hC hR hsh hst hL hS hc hs
  exact lv_lshl hC.1 hC.2.1 hd rfl (K l p e S m args below meth cd H locs cells slots mc ms lsC X D aC B sh0 sh hfl hC hR hsh (cn_ok trivial (tl2_ok hst)) hL hS hc hs)
theorem at_i2l {y pc : Nat} {ls : eLS} {t : List AV} {k s : Nat} {Q : FT} {c : Nat} {mr : MR} {mi : MI} {ml : ML} {u : Int32} (hd : decode (mCd y) pc = .ok (.i2l, 1))  (K : At y (pc + 1) ls (.inr (.inl (u.toInt64)) :: t) k s Q c mr mi ml) : At y pc ls (.inl u :: t) k s Q c mr mi ml := by
  intro l p e S m args below meth cd H locs cells slots mc ms lsC X D aC B sh0 sh hfl hC hR hsh hst hL hS hc hs
  exact lv_i2l hC.1 hC.2.1 hd rfl (K l p e S m args below meth cd H locs cells slots mc ms lsC X D aC B sh0 sh hfl hC hR hsh (cn_ok trivial (tl_ok hst)) hL hS hc hs)
theorem at_l2i {y pc : Nat} {ls : eLS} {t : List AV} {k s : Nat} {Q : FT} {c : Nat} {mr : MR} {mi : MI} {ml : ML} {u : Int64} (hd : decode (mCd y) pc = .ok (.l2i, 1))  (K : At y (pc + 1) ls (.inl (u.toInt32) :: t) k s Q c mr mi ml) : At y pc ls (.inr (.inl u) :: t) k s Q c mr mi ml := by
  intro l p e S m args below meth cd H locs cells slots mc ms lsC X D aC B sh0 sh hfl hC hR hsh hst hL hS hc hs
  exact lv_l2i hC.1 hC.2.1 hd rfl (K l p e S m args below meth cd H locs cells slots mc ms lsC X D aC B sh0 sh hfl hC hR hsh (cn_ok trivial (tl_ok hst)) hL hS hc hs)
theorem at_i2b {y pc : Nat} {ls : eLS} {t : List AV} {k s : Nat} {Q : FT} {c : Nat} {mr : MR} {mi : MI} {ml : ML} {u : Int32} (hd : decode (mCd y) pc = .ok (.i2b, 1))  (K : At y (pc + 1) ls (.inl (u.toInt8.toInt32) :: t) k s Q c mr mi ml) : At y pc ls (.inl u :: t) k s Q c mr mi ml := by
  intro l p e S m args below meth cd H locs cells slots mc ms lsC X D aC B sh0 sh hfl hC hR hsh hst hL hS hc hs
  exact lv_i2b hC.1 hC.2.1 hd rfl (K l p e S m args below meth cd H locs cells slots mc ms lsC X D aC B sh0 sh hfl hC hR hsh (cn_ok trivial (tl_ok hst)) hL hS hc hs)
theorem at_i2c {y pc : Nat} {ls : eLS} {t : List AV} {k s : Nat} {Q : FT} {c : Nat} {mr : MR} {mi : MI} {ml : ML} {u : Int32} (hd : decode (mCd y) pc = .ok (.i2c, 1))  (K : At y (pc + 1) ls (.inl ((u.toUInt32 % 65536).toInt32) :: t) k s Q c mr mi ml) : At y pc ls (.inl u :: t) k s Q c mr mi ml := by
  intro l p e S m args below meth cd H locs cells slots mc ms lsC X D aC B sh0 sh hfl hC hR hsh hst hL hS hc hs
  exact lv_i2c hC.1 hC.2.1 hd rfl (K l p e S m args below meth cd H locs cells slots mc ms lsC X D aC B sh0 sh hfl hC hR hsh (cn_ok trivial (tl_ok hst)) hL hS hc hs)
theorem at_lcmp {y pc : Nat} {ls : eLS} {t : List AV} {k s : Nat} {Q : FT} {c : Nat} {mr : MR} {mi : MI} {ml : ML} {u w : Int64} (hd : decode (mCd y) pc = .ok (.lcmp, 1))  (K : At y (pc + 1) ls (.inl (lg_cmp u w) :: t) k s Q c mr mi ml) : At y pc ls (.inr (.inl w) :: .inr (.inl u) :: t) k s Q c mr mi ml := by
  intro l p e S m args below meth cd H locs cells slots mc ms lsC X D aC B sh0 sh hfl hC hR hsh hst hL hS hc hs
  exact W.lcmp hC.1 hC.2.1 hd  (K l p e S m args below meth cd H locs cells slots mc ms lsC X D aC B sh0 sh hfl hC hR hsh (cn_ok trivial (tl2_ok hst)) hL hS hc hs)
theorem at_iconst {y pc : Nat} {ls : eLS} {t : List AV} {k s : Nat} {Q : FT} {c : Nat} {mr : MR} {mi : MI} {ml : ML} {n : Int} {w : Int32} (hd : decode (mCd y) pc = .ok (.iconst n, 1)) (hv : Int32.ofInt n = w) (K : At y (pc + 1) ls (.inl (w) :: t) k s Q c mr mi ml) : At y pc ls (t) k s Q c mr mi ml := by
  intro l p e S m args below meth cd H locs cells slots mc ms lsC X D aC B sh0 sh hfl hC hR hsh hst hL hS hc hs
  exact lv_iconst hC.1 hC.2.1 hd hv (K l p e S m args below meth cd H locs cells slots mc ms lsC X D aC B sh0 sh hfl hC hR hsh (cn_ok trivial hst) hL hS hc hs)
theorem at_bipush {y pc : Nat} {ls : eLS} {t : List AV} {k s : Nat} {Q : FT} {c : Nat} {mr : MR} {mi : MI} {ml : ML} {n : Int} {w : Int32} (hd : decode (mCd y) pc = .ok (.bipush n, 2)) (hv : (Int8.ofInt n).toInt32 = w) (K : At y (pc + 2) ls (.inl (w) :: t) k s Q c mr mi ml) : At y pc ls (t) k s Q c mr mi ml := by
  intro l p e S m args below meth cd H locs cells slots mc ms lsC X D aC B sh0 sh hfl hC hR hsh hst hL hS hc hs
  exact lv_bipush hC.1 hC.2.1 hd hv (K l p e S m args below meth cd H locs cells slots mc ms lsC X D aC B sh0 sh hfl hC hR hsh (cn_ok trivial hst) hL hS hc hs)
theorem at_sipush {y pc : Nat} {ls : eLS} {t : List AV} {k s : Nat} {Q : FT} {c : Nat} {mr : MR} {mi : MI} {ml : ML} {n : Int} {w : Int32} (hd : decode (mCd y) pc = .ok (.sipush n, 3)) (hv : (Int16.ofInt n).toInt32 = w) (K : At y (pc + 3) ls (.inl (w) :: t) k s Q c mr mi ml) : At y pc ls (t) k s Q c mr mi ml := by
  intro l p e S m args below meth cd H locs cells slots mc ms lsC X D aC B sh0 sh hfl hC hR hsh hst hL hS hc hs
  exact lv_sipush hC.1 hC.2.1 hd hv (K l p e S m args below meth cd H locs cells slots mc ms lsC X D aC B sh0 sh hfl hC hR hsh (cn_ok trivial hst) hL hS hc hs)
theorem at_lconst {y pc : Nat} {ls : eLS} {t : List AV} {k s : Nat} {Q : FT} {c : Nat} {mr : MR} {mi : MI} {ml : ML} {n : Fin 2} {w : Int64} (hd : decode (mCd y) pc = .ok (.lconst n, 1)) (hv : Int64.ofNat (n : Nat) = w) (K : At y (pc + 1) ls (.inr (.inl (w)) :: t) k s Q c mr mi ml) : At y pc ls (t) k s Q c mr mi ml := by
  intro l p e S m args below meth cd H locs cells slots mc ms lsC X D aC B sh0 sh hfl hC hR hsh hst hL hS hc hs
  exact lv_lconst hC.1 hC.2.1 hd hv (K l p e S m args below meth cd H locs cells slots mc ms lsC X D aC B sh0 sh hfl hC hR hsh (cn_ok trivial hst) hL hS hc hs)
theorem at_iload {y pc : Nat} {ls : eLS} {t : List AV} {k s : Nat} {Q : FT} {c : Nat} {mr : MR} {mi : MI} {ml : ML} {i : Nat} {x : Int32} (hd : decode (mCd y) pc = .ok (.iload i, 2)) (hl : lg ls i = some (.inl x)) (K : At y (pc + 2) ls (.inl (x) :: t) k s Q c mr mi ml) : At y pc ls (t) k s Q c mr mi ml := by
  intro l p e S m args below meth cd H locs cells slots mc ms lsC X D aC B sh0 sh hfl hC hR hsh hst hL hS hc hs
  exact lv_iload hC.1 hC.2.1 hd (hL.2.2 i _ hl).1 (K l p e S m args below meth cd H locs cells slots mc ms lsC X D aC B sh0 sh hfl hC hR hsh (cn_ok trivial hst) hL hS hc hs)
theorem at_iload_n {y pc : Nat} {ls : eLS} {t : List AV} {k s : Nat} {Q : FT} {c : Nat} {mr : MR} {mi : MI} {ml : ML} {i : Fin 4} {x : Int32} (hd : decode (mCd y) pc = .ok (.iload_n i, 1)) (hl : lg ls i.val = some (.inl x)) (K : At y (pc + 1) ls (.inl (x) :: t) k s Q c mr mi ml) : At y pc ls (t) k s Q c mr mi ml := by
  intro l p e S m args below meth cd H locs cells slots mc ms lsC X D aC B sh0 sh hfl hC hR hsh hst hL hS hc hs
  exact lv_iload_n hC.1 hC.2.1 hd rfl (hL.2.2 i.val _ hl).1 (K l p e S m args below meth cd H locs cells slots mc ms lsC X D aC B sh0 sh hfl hC hR hsh (cn_ok trivial hst) hL hS hc hs)
theorem at_lload {y pc : Nat} {ls : eLS} {t : List AV} {k s : Nat} {Q : FT} {c : Nat} {mr : MR} {mi : MI} {ml : ML} {i : Nat} {x : Int64} (hd : decode (mCd y) pc = .ok (.lload i, 2)) (hl : lg ls i = some (.inr (.inl x))) (K : At y (pc + 2) ls (.inr (.inl (x)) :: t) k s Q c mr mi ml) : At y pc ls (t) k s Q c mr mi ml := by
  intro l p e S m args below meth cd H locs cells slots mc ms lsC X D aC B sh0 sh hfl hC hR hsh hst hL hS hc hs
  exact lv_lload hC.1 hC.2.1 hd (hL.2.2 i _ hl).1 (K l p e S m args below meth cd H locs cells slots mc ms lsC X D aC B sh0 sh hfl hC hR hsh (cn_ok trivial hst) hL hS hc hs)
theorem at_lload_n {y pc : Nat} {ls : eLS} {t : List AV} {k s : Nat} {Q : FT} {c : Nat} {mr : MR} {mi : MI} {ml : ML} {i : Fin 4} {x : Int64} (hd : decode (mCd y) pc = .ok (.lload_n i, 1)) (hl : lg ls i.val = some (.inr (.inl x))) (K : At y (pc + 1) ls (.inr (.inl (x)) :: t) k s Q c mr mi ml) : At y pc ls (t) k s Q c mr mi ml := by
  intro l p e S m args below meth cd H locs cells slots mc ms lsC X D aC B sh0 sh hfl hC hR hsh hst hL hS hc hs
  exact lv_lload_n hC.1 hC.2.1 hd rfl (hL.2.2 i.val _ hl).1 (K l p e S m args below meth cd H locs cells slots mc ms lsC X D aC B sh0 sh hfl hC hR hsh (cn_ok trivial hst) hL hS hc hs)
theorem at_ldc {y pc : Nat} {ls : eLS} {t : List AV} {k s : Nat} {Q : FT} {c : Nat} {mr : MR} {mi : MI} {ml : ML} {n : Nat} {w : Int32} (hd : decode (mCd y) pc = .ok (.ldc n, 2)) (hw : Cond.constant (mNm y).cls n w ∈ WT) (K : At y (pc + 2) ls (.inl w :: t) k s Q c mr mi ml) : At y pc ls t k s Q c mr mi ml := by
  intro l p e S m args below meth cd H locs cells slots mc ms lsC X D aC B sh0 sh hfl hC hR hsh hst hL hS hc hs
  exact lv_ldc hC.1 hC.2.1 hC.own (hC.wds _ hw) hd (K l p e S m args below meth cd H locs cells slots mc ms lsC X D aC B sh0 sh hfl hC hR hsh (cn_ok trivial hst) hL hS hc hs)
theorem at_ldc_w {y pc : Nat} {ls : eLS} {t : List AV} {k s : Nat} {Q : FT} {c : Nat} {mr : MR} {mi : MI} {ml : ML} {n : Nat} {w : Int32} (hd : decode (mCd y) pc = .ok (.ldc_w n, 3)) (hw : Cond.constant (mNm y).cls n w ∈ WT) (K : At y (pc + 3) ls (.inl w :: t) k s Q c mr mi ml) : At y pc ls t k s Q c mr mi ml := by
  intro l p e S m args below meth cd H locs cells slots mc ms lsC X D aC B sh0 sh hfl hC hR hsh hst hL hS hc hs
  exact lv_ldcw hC.1 hC.2.1 hC.own (hC.wds _ hw) hd (K l p e S m args below meth cd H locs cells slots mc ms lsC X D aC B sh0 sh hfl hC hR hsh (cn_ok trivial hst) hL hS hc hs)
theorem at_ldc2 {y pc : Nat} {ls : eLS} {t : List AV} {k s : Nat} {Q : FT} {c : Nat} {mr : MR} {mi : MI} {ml : ML} {n : Nat} {w : Int64} (hd : decode (mCd y) pc = .ok (.ldc2_w n, 3)) (hw : Cond.constantLong (mNm y).cls n w ∈ WT) (K : At y (pc + 3) ls (.inr (.inl w) :: t) k s Q c mr mi ml) : At y pc ls t k s Q c mr mi ml := by
  intro l p e S m args below meth cd H locs cells slots mc ms lsC X D aC B sh0 sh hfl hC hR hsh hst hL hS hc hs
  exact lv_ldc2 hC.1 hC.2.1 hC.own (hC.wds _ hw) hd (K l p e S m args below meth cd H locs cells slots mc ms lsC X D aC B sh0 sh hfl hC hR hsh (cn_ok trivial hst) hL hS hc hs)
theorem at_ldcS {y pc : Nat} {ls : eLS} {t : List AV} {k s : Nat} {Q : FT} {c : Nat} {mr : MR} {mi : MI} {ml : ML} {n i : Nat} {tx : String} (hd : decode (mCd y) pc = .ok (.ldc n, 2)) (hw : ((mNm y).cls, n, tx, i) ∈ ldT) (hi : i < nStr) (K : At y (pc + 2) ls (.inr (.inr (some (100, 0, i))) :: t) k s Q c mr mi ml) : At y pc ls t k s Q c mr mi ml := by
  intro l p e S m args below meth cd H locs cells slots mc ms lsC X D aC B sh0 sh hfl hC hR hsh hst hL hS hc hs
  exact va_ldcS hC.1 hC.2.1 hC.own (hC.ext.lds _ hw) hd (K l p e S m args below meth cd H locs cells slots mc ms lsC X D aC B sh0 sh hfl hC hR hsh (cn_ok (show okq X sh (100, 0, i) from hi) hst) hL hS hc hs)
theorem at_aload {y pc : Nat} {ls : eLS} {t : List AV} {k s : Nat} {Q : FT} {c : Nat} {mr : MR} {mi : MI} {ml : ML} {i : Nat} {q : Nat × Nat × Nat} (hd : decode (mCd y) pc = .ok (.aload i, 2)) (hl : lg ls i = some (.inr (.inr (some q)))) (K : At y (pc + 2) ls (.inr (.inr (some q)) :: t) k s Q c mr mi ml) : At y pc ls t k s Q c mr mi ml := by
  intro l p e S m args below meth cd H locs cells slots mc ms lsC X D aC B sh0 sh hfl hC hR hsh hst hL hS hc hs
  obtain ⟨h1, h2⟩ := hL.2.2 i _ hl
  have K2 := K l p e S m args below meth cd H locs cells slots mc ms lsC X D aC B sh0 sh hfl hC hR hsh (cn_ok h2 hst) hL hS hc hs
  have hX := hC.ext.fm
  rcases cq_ref hX q with ⟨a, ee⟩ | ee
  · have h1 : lsC[i]? = some (.val (.ref a)) := by rw [h1]; exact congrArg (fun v => some (Slot.val v)) ee
    have K2 : W p l e (rmm y mc ms) S m args below meth cd H locs cells slots _ (F0 m (pc + 2) lsC (cq X B q :: t.map (cv X B))) := K2
    rw [ee] at K2
    exact lv_aload hC.1 hC.2.1 hd h1 K2
  · have h1 : lsC[i]? = some (.val .null) := by rw [h1]; exact congrArg (fun v => some (Slot.val v)) ee
    have K2 : W p l e (rmm y mc ms) S m args below meth cd H locs cells slots _ (F0 m (pc + 2) lsC (cq X B q :: t.map (cv X B))) := K2
    rw [ee] at K2
    exact lv_aloadN hC.1 hC.2.1 hd h1 K2
theorem at_aload_n {y pc : Nat} {ls : eLS} {t : List AV} {k s : Nat} {Q : FT} {c : Nat} {mr : MR} {mi : MI} {ml : ML} {i : Fin 4} {q : Nat × Nat × Nat} (hd : decode (mCd y) pc = .ok (.aload_n i, 1)) (hl : lg ls i.val = some (.inr (.inr (some q)))) (K : At y (pc + 1) ls (.inr (.inr (some q)) :: t) k s Q c mr mi ml) : At y pc ls t k s Q c mr mi ml := by
  intro l p e S m args below meth cd H locs cells slots mc ms lsC X D aC B sh0 sh hfl hC hR hsh hst hL hS hc hs
  obtain ⟨h1, h2⟩ := hL.2.2 i.val _ hl
  have K2 := K l p e S m args below meth cd H locs cells slots mc ms lsC X D aC B sh0 sh hfl hC hR hsh (cn_ok h2 hst) hL hS hc hs
  have hX := hC.ext.fm
  rcases cq_ref hX q with ⟨a, ee⟩ | ee
  · have h1 : lsC[i.val]? = some (.val (.ref a)) := by rw [h1]; exact congrArg (fun v => some (Slot.val v)) ee
    have K2 : W p l e (rmm y mc ms) S m args below meth cd H locs cells slots _ (F0 m (pc + 1) lsC (cq X B q :: t.map (cv X B))) := K2
    rw [ee] at K2
    exact lv_aload_n hC.1 hC.2.1 hd rfl h1 K2
  · have h1 : lsC[i.val]? = some (.val .null) := by rw [h1]; exact congrArg (fun v => some (Slot.val v)) ee
    have K2 : W p l e (rmm y mc ms) S m args below meth cd H locs cells slots _ (F0 m (pc + 1) lsC (cq X B q :: t.map (cv X B))) := K2
    rw [ee] at K2
    exact lv_aload_nN hC.1 hC.2.1 hd rfl h1 K2
theorem at_istore {y pc : Nat} {ls : eLS} {t : List AV} {k s : Nat} {Q : FT} {c : Nat} {mr : MR} {mi : MI} {ml : ML} {i : Nat} {x : Int32} (hd : decode (mCd y) pc = .ok (.istore i, 2)) (hi : i < mMx y) (K : At y (pc + 2) (stoK ls i (.inl x) id) t k s Q c mr mi ml) : At y pc ls (.inl x :: t) k s Q c mr mi ml := by
  intro l p e S m args below meth cd H locs cells slots mc ms lsC X D aC B sh0 sh hfl hC hR hsh hst hL hS hc hs
  refine lv_istore hC.1 hC.2.1 hd (lvl_has hL) hi rfl (fun ls1 h1 => ?_)
  exact K l p e S m args below meth cd H locs cells slots mc ms ls1 X D aC B sh0 sh hfl hC hR hsh (tl_ok hst) (lvs_sto hC.ext.fm hL i (v := .inl x) trivial h1) hS hc hs
theorem at_istore_n {y pc : Nat} {ls : eLS} {t : List AV} {k s : Nat} {Q : FT} {c : Nat} {mr : MR} {mi : MI} {ml : ML} {i : Fin 4} {x : Int32} (hd : decode (mCd y) pc = .ok (.istore_n i, 1)) (hi : i.val < mMx y) (K : At y (pc + 1) (stoK ls i.val (.inl x) id) t k s Q c mr mi ml) : At y pc ls (.inl x :: t) k s Q c mr mi ml := by
  intro l p e S m args below meth cd H locs cells slots mc ms lsC X D aC B sh0 sh hfl hC hR hsh hst hL hS hc hs
  refine lv_istore_n hC.1 hC.2.1 hd rfl (lvl_has hL) hi rfl (fun ls1 h1 => ?_)
  exact K l p e S m args below meth cd H locs cells slots mc ms ls1 X D aC B sh0 sh hfl hC hR hsh (tl_ok hst) (lvs_sto hC.ext.fm hL i.val (v := .inl x) trivial h1) hS hc hs
theorem at_lstore {y pc : Nat} {ls : eLS} {t : List AV} {k s : Nat} {Q : FT} {c : Nat} {mr : MR} {mi : MI} {ml : ML} {i : Nat} {x : Int64} (hd : decode (mCd y) pc = .ok (.lstore i, 2)) (hi : i + 1 < mMx y) (K : At y (pc + 2) (stoLK ls i (.inr (.inl x)) id) t k s Q c mr mi ml) : At y pc ls (.inr (.inl x) :: t) k s Q c mr mi ml := by
  intro l p e S m args below meth cd H locs cells slots mc ms lsC X D aC B sh0 sh hfl hC hR hsh hst hL hS hc hs
  refine lv_lstore hC.1 hC.2.1 hd (lvl_has hL) hi rfl (fun ls1 h1 => ?_)
  exact K l p e S m args below meth cd H locs cells slots mc ms ls1 X D aC B sh0 sh hfl hC hR hsh (tl_ok hst) (lvs_stoL hC.ext.fm hL i (v := .inr (.inl x)) trivial h1) hS hc hs
theorem at_lstore_n {y pc : Nat} {ls : eLS} {t : List AV} {k s : Nat} {Q : FT} {c : Nat} {mr : MR} {mi : MI} {ml : ML} {i : Fin 4} {x : Int64} (hd : decode (mCd y) pc = .ok (.lstore_n i, 1)) (hi : i.val + 1 < mMx y) (K : At y (pc + 1) (stoLK ls i.val (.inr (.inl x)) id) t k s Q c mr mi ml) : At y pc ls (.inr (.inl x) :: t) k s Q c mr mi ml := by
  intro l p e S m args below meth cd H locs cells slots mc ms lsC X D aC B sh0 sh hfl hC hR hsh hst hL hS hc hs
  refine lv_lstore_n hC.1 hC.2.1 hd rfl (lvl_has hL) hi rfl (fun ls1 h1 => ?_)
  exact K l p e S m args below meth cd H locs cells slots mc ms ls1 X D aC B sh0 sh hfl hC hR hsh (tl_ok hst) (lvs_stoL hC.ext.fm hL i.val (v := .inr (.inl x)) trivial h1) hS hc hs
theorem at_astore {y pc : Nat} {ls : eLS} {t : List AV} {k s : Nat} {Q : FT} {c : Nat} {mr : MR} {mi : MI} {ml : ML} {i : Nat} {q : Nat × Nat × Nat} (hd : decode (mCd y) pc = .ok (.astore i, 2)) (hi : i < mMx y) (K : At y (pc + 2) (stoK ls i (.inr (.inr (some q))) id) t k s Q c mr mi ml) : At y pc ls (.inr (.inr (some q)) :: t) k s Q c mr mi ml := by
  intro l p e S m args below meth cd H locs cells slots mc ms lsC X D aC B sh0 sh hfl hC hR hsh hst hL hS hc hs
  have hq := hst _ List.mem_cons_self
  have hX := hC.ext.fm
  have K2 : ∀ ls1, lv_has ls1 (mMx y) ((i, cq X B q) :: (lvl X B ls (mMx y)).filter (fun z => !(z.1 == i) && !(z.1 + 1 == i && z.2.category == 2))) → W p l e (rmm y mc ms) S m args below meth cd H locs cells slots (Q below args S mc ms X D aC B sh0) (F0 m (pc + 2) ls1 (t.map (cv X B))) := fun ls1 h1 => K l p e S m args below meth cd H locs cells slots mc ms ls1 X D aC B sh0 sh hfl hC hR hsh (tl_ok hst) (lvs_sto hX hL i (v := .inr (.inr (some q))) hq h1) hS hc hs
  show W p l e (rmm y mc ms) S m args below meth cd H locs cells slots _ (F0 m pc lsC (cq X B q :: t.map (cv X B)))
  rcases cq_ref hX q with ⟨a, ee⟩ | ee
  · rw [ee] at K2 ⊢; exact lv_astore hC.1 hC.2.1 hd (lvl_has hL) hi rfl K2
  · rw [ee] at K2 ⊢; exact lv_astoreN hC.1 hC.2.1 hd (lvl_has hL) hi rfl K2
theorem at_astore_n {y pc : Nat} {ls : eLS} {t : List AV} {k s : Nat} {Q : FT} {c : Nat} {mr : MR} {mi : MI} {ml : ML} {i : Fin 4} {q : Nat × Nat × Nat} (hd : decode (mCd y) pc = .ok (.astore_n i, 1)) (hi : i.val < mMx y) (K : At y (pc + 1) (stoK ls i.val (.inr (.inr (some q))) id) t k s Q c mr mi ml) : At y pc ls (.inr (.inr (some q)) :: t) k s Q c mr mi ml := by
  intro l p e S m args below meth cd H locs cells slots mc ms lsC X D aC B sh0 sh hfl hC hR hsh hst hL hS hc hs
  have hq := hst _ List.mem_cons_self
  have hX := hC.ext.fm
  have K2 : ∀ ls1, lv_has ls1 (mMx y) ((i.val, cq X B q) :: (lvl X B ls (mMx y)).filter (fun z => !(z.1 == i.val) && !(z.1 + 1 == i.val && z.2.category == 2))) → W p l e (rmm y mc ms) S m args below meth cd H locs cells slots (Q below args S mc ms X D aC B sh0) (F0 m (pc + 1) ls1 (t.map (cv X B))) := fun ls1 h1 => K l p e S m args below meth cd H locs cells slots mc ms ls1 X D aC B sh0 sh hfl hC hR hsh (tl_ok hst) (lvs_sto hX hL i.val (v := .inr (.inr (some q))) hq h1) hS hc hs
  show W p l e (rmm y mc ms) S m args below meth cd H locs cells slots _ (F0 m pc lsC (cq X B q :: t.map (cv X B)))
  rcases cq_ref hX q with ⟨a, ee⟩ | ee
  · rw [ee] at K2 ⊢; exact lv_astore_n hC.1 hC.2.1 hd rfl (lvl_has hL) hi rfl K2
  · rw [ee] at K2 ⊢; exact lv_astore_nN hC.1 hC.2.1 hd rfl (lvl_has hL) hi rfl K2
theorem at_iinc {y pc : Nat} {ls : eLS} {t : List AV} {k s : Nat} {Q : FT} {c : Nat} {mr : MR} {mi : MI} {ml : ML} {i : Nat} {n : Int} {x w : Int32} (hd : decode (mCd y) pc = .ok (.iinc i n, 3)) (hl : lg ls i = some (.inl x)) (hi : i < mMx y) (hn : Int32.ofInt n = w) (K : At y (pc + 3) (stoK ls i (.inl (x + w)) id) t k s Q c mr mi ml) : At y pc ls t k s Q c mr mi ml := by
  intro l p e S m args below meth cd H locs cells slots mc ms lsC X D aC B sh0 sh hfl hC hR hsh hst hL hS hc hs
  obtain ⟨kk, hk⟩ := List.getElem?_of_mem (lvl_mem (X := X) (B := B) hi hl)
  refine lv_iinc hC.1 hC.2.1 hd (lvl_has hL) hk (by rw [hn]) hi rfl (fun ls1 h1 => ?_)
  exact K l p e S m args below meth cd H locs cells slots mc ms ls1 X D aC B sh0 sh hfl hC hR hsh hst (lvs_sto hC.ext.fm hL i (v := .inl (x + w)) trivial h1) hS hc hs
theorem at_dup_i {y pc : Nat} {ls : eLS} {t : List AV} {k s : Nat} {Q : FT} {c : Nat} {mr : MR} {mi : MI} {ml : ML} {u : Int32} (hd : decode (mCd y) pc = .ok (.dup, 1))  (K : At y (pc + 1) ls (.inl (u) :: .inl (u) :: t) k s Q c mr mi ml) : At y pc ls (.inl u :: t) k s Q c mr mi ml := by
  intro l p e S m args below meth cd H locs cells slots mc ms lsC X D aC B sh0 sh hfl hC hR hsh hst hL hS hc hs
  exact lv_dup hC.1 hC.2.1 hd rfl (K l p e S m args below meth cd H locs cells slots mc ms lsC X D aC B sh0 sh hfl hC hR hsh (cn_ok trivial (cn_ok trivial (tl_ok hst))) hL hS hc hs)
theorem at_dup_q {y pc : Nat} {ls : eLS} {t : List AV} {k s : Nat} {Q : FT} {c : Nat} {mr : MR} {mi : MI} {ml : ML} {q : Option (Nat × Nat × Nat)} (hd : decode (mCd y) pc = .ok (.dup, 1)) (K : At y (pc + 1) ls (.inr (.inr q) :: .inr (.inr q) :: t) k s Q c mr mi ml) : At y pc ls (.inr (.inr q) :: t) k s Q c mr mi ml := by
  intro l p e S m args below meth cd H locs cells slots mc ms lsC X D aC B sh0 sh hfl hC hR hsh hst hL hS hc hs
  exact lv_dup hC.1 hC.2.1 hd (av_cat hC.ext.fm (.inr (.inr q))) (K l p e S m args below meth cd H locs cells slots mc ms lsC X D aC B sh0 sh hfl hC hR hsh (cn_ok (hst _ List.mem_cons_self) hst) hL hS hc hs)
theorem at_dup2_l {y pc : Nat} {ls : eLS} {t : List AV} {k s : Nat} {Q : FT} {c : Nat} {mr : MR} {mi : MI} {ml : ML} {u : Int64} (hd : decode (mCd y) pc = .ok (.dup2, 1))  (K : At y (pc + 1) ls (.inr (.inl (u)) :: .inr (.inl (u)) :: t) k s Q c mr mi ml) : At y pc ls (.inr (.inl u) :: t) k s Q c mr mi ml := by
  intro l p e S m args below meth cd H locs cells slots mc ms lsC X D aC B sh0 sh hfl hC hR hsh hst hL hS hc hs
  exact lv_dup2_2 hC.1 hC.2.1 hd rfl (K l p e S m args below meth cd H locs cells slots mc ms lsC X D aC B sh0 sh hfl hC hR hsh (cn_ok trivial (cn_ok trivial (tl_ok hst))) hL hS hc hs)
theorem at_dup2_ii {y pc : Nat} {ls : eLS} {t : List AV} {k s : Nat} {Q : FT} {c : Nat} {mr : MR} {mi : MI} {ml : ML} {u w : Int32} (hd : decode (mCd y) pc = .ok (.dup2, 1))  (K : At y (pc + 1) ls (.inl (w) :: .inl (u) :: .inl (w) :: .inl (u) :: t) k s Q c mr mi ml) : At y pc ls (.inl w :: .inl u :: t) k s Q c mr mi ml := by
  intro l p e S m args below meth cd H locs cells slots mc ms lsC X D aC B sh0 sh hfl hC hR hsh hst hL hS hc hs
  exact lv_dup2_11 hC.1 hC.2.1 hd rfl rfl (K l p e S m args below meth cd H locs cells slots mc ms lsC X D aC B sh0 sh hfl hC hR hsh (cn_ok trivial (cn_ok trivial (cn_ok trivial (cn_ok trivial (tl2_ok hst))))) hL hS hc hs)
theorem at_dup2_iq {y pc : Nat} {ls : eLS} {t : List AV} {k s : Nat} {Q : FT} {c : Nat} {mr : MR} {mi : MI} {ml : ML} {w : Int32} {q : Option (Nat × Nat × Nat)} (hd : decode (mCd y) pc = .ok (.dup2, 1)) (K : At y (pc + 1) ls (.inl w :: .inr (.inr q) :: .inl w :: .inr (.inr q) :: t) k s Q c mr mi ml) : At y pc ls (.inl w :: .inr (.inr q) :: t) k s Q c mr mi ml := by
  intro l p e S m args below meth cd H locs cells slots mc ms lsC X D aC B sh0 sh hfl hC hR hsh hst hL hS hc hs
  exact lv_dup2_11 hC.1 hC.2.1 hd rfl (av_cat hC.ext.fm (.inr (.inr q))) (K l p e S m args below meth cd H locs cells slots mc ms lsC X D aC B sh0 sh hfl hC hR hsh (cn_ok trivial (cn_ok (tl_ok hst _ List.mem_cons_self) hst)) hL hS hc hs)
theorem at_pop_i {y pc : Nat} {ls : eLS} {t : List AV} {k s : Nat} {Q : FT} {c : Nat} {mr : MR} {mi : MI} {ml : ML} {u : Int32} (hd : decode (mCd y) pc = .ok (.pop, 1))  (K : At y (pc + 1) ls (t) k s Q c mr mi ml) : At y pc ls (.inl u :: t) k s Q c mr mi ml := by
  intro l p e S m args below meth cd H locs cells slots mc ms lsC X D aC B sh0 sh hfl hC hR hsh hst hL hS hc hs
  exact lv_pop hC.1 hC.2.1 hd rfl (K l p e S m args below meth cd H locs cells slots mc ms lsC X D aC B sh0 sh hfl hC hR hsh (tl_ok hst) hL hS hc hs)
theorem at_pop_q {y pc : Nat} {ls : eLS} {t : List AV} {k s : Nat} {Q : FT} {c : Nat} {mr : MR} {mi : MI} {ml : ML} {q : Option (Nat × Nat × Nat)} (hd : decode (mCd y) pc = .ok (.pop, 1)) (K : At y (pc + 1) ls t k s Q c mr mi ml) : At y pc ls (.inr (.inr q) :: t) k s Q c mr mi ml := by
  intro l p e S m args below meth cd H locs cells slots mc ms lsC X D aC B sh0 sh hfl hC hR hsh hst hL hS hc hs
  exact lv_pop hC.1 hC.2.1 hd (av_cat hC.ext.fm (.inr (.inr q))) (K l p e S m args below meth cd H locs cells slots mc ms lsC X D aC B sh0 sh hfl hC hR hsh (tl_ok hst) hL hS hc hs)
theorem at_goto {y pc : Nat} {ls : eLS} {t : List AV} {k s : Nat} {Q : FT} {c : Nat} {mr : MR} {mi : MI} {ml : ML} {off : Int} {tgt : Nat} (hd : decode (mCd y) pc = .ok (.goto off, 3)) (ht : (pc : Int) + off = (tgt : Int)) (K : At y tgt ls t k s Q c mr mi ml) : At y pc ls t k s Q c mr mi ml := by
  intro l p e S m args below meth cd H locs cells slots mc ms lsC X D aC B sh0 sh hfl hC hR hsh hst hL hS hc hs
  exact lv_goto hC.1 hC.2.1 hd ht (K l p e S m args below meth cd H locs cells slots mc ms lsC X D aC B sh0 sh hfl hC hR hsh hst hL hS hc hs)
theorem at_if {y pc : Nat} {ls : eLS} {t : List AV} {k s : Nat} {Q : FT} {c : Nat} {mr : MR} {mi : MI} {ml : ML} {cnd : ClassFile.Cond} {x : Int32} {off : Int} {tgt : Nat} (hd : decode (mCd y) pc = .ok (.ifCond cnd off, 3)) (ht : (pc : Int) + off = (tgt : Int)) (K : brc cnd x 0 (At y tgt ls t k s Q c mr mi ml) (At y (pc + 3) ls t k s Q c mr mi ml)) : At y pc ls (.inl x :: t) k s Q c mr mi ml := by
  intro l p e S m args below meth cd H locs cells slots mc ms lsC X D aC B sh0 sh hfl hC hR hsh hst hL hS hc hs
  cases cnd
  · exact lv_if_eq hC.1 hC.2.1 hd ht (fun h => K.1 h l p e S m args below meth cd H locs cells slots mc ms lsC X D aC B sh0 sh hfl hC hR hsh (tl_ok hst) hL hS hc hs) (fun h => K.2 h l p e S m args below meth cd H locs cells slots mc ms lsC X D aC B sh0 sh hfl hC hR hsh (tl_ok hst) hL hS hc hs)
  · exact lv_if_ne hC.1 hC.2.1 hd ht (fun h => K.1 h l p e S m args below meth cd H locs cells slots mc ms lsC X D aC B sh0 sh hfl hC hR hsh (tl_ok hst) hL hS hc hs) (fun h => K.2 h l p e S m args below meth cd H locs cells slots mc ms lsC X D aC B sh0 sh hfl hC hR hsh (tl_ok hst) hL hS hc hs)
  · exact lv_if_lt hC.1 hC.2.1 hd ht (fun h => K.1 h l p e S m args below meth cd H locs cells slots mc ms lsC X D aC B sh0 sh hfl hC hR hsh (tl_ok hst) hL hS hc hs) (fun h => K.2 h l p e S m args below meth cd H locs cells slots mc ms lsC X D aC B sh0 sh hfl hC hR hsh (tl_ok hst) hL hS hc hs)
  · exact lv_if_ge hC.1 hC.2.1 hd ht (fun h => K.1 h l p e S m args below meth cd H locs cells slots mc ms lsC X D aC B sh0 sh hfl hC hR hsh (tl_ok hst) hL hS hc hs) (fun h => K.2 h l p e S m args below meth cd H locs cells slots mc ms lsC X D aC B sh0 sh hfl hC hR hsh (tl_ok hst) hL hS hc hs)
  · exact lv_if_gt hC.1 hC.2.1 hd ht (fun h => K.1 h l p e S m args below meth cd H locs cells slots mc ms lsC X D aC B sh0 sh hfl hC hR hsh (tl_ok hst) hL hS hc hs) (fun h => K.2 h l p e S m args below meth cd H locs cells slots mc ms lsC X D aC B sh0 sh hfl hC hR hsh (tl_ok hst) hL hS hc hs)
  · exact lv_if_le hC.1 hC.2.1 hd ht (fun h => K.1 h l p e S m args below meth cd H locs cells slots mc ms lsC X D aC B sh0 sh hfl hC hR hsh (tl_ok hst) hL hS hc hs) (fun h => K.2 h l p e S m args below meth cd H locs cells slots mc ms lsC X D aC B sh0 sh hfl hC hR hsh (tl_ok hst) hL hS hc hs)
theorem at_icmp {y pc : Nat} {ls : eLS} {t : List AV} {k s : Nat} {Q : FT} {c : Nat} {mr : MR} {mi : MI} {ml : ML} {cnd : ClassFile.Cond} {x w : Int32} {off : Int} {tgt : Nat} (hd : decode (mCd y) pc = .ok (.if_icmp cnd off, 3)) (ht : (pc : Int) + off = (tgt : Int)) (K : brc cnd x w (At y tgt ls t k s Q c mr mi ml) (At y (pc + 3) ls t k s Q c mr mi ml)) : At y pc ls (.inl w :: .inl x :: t) k s Q c mr mi ml := by
  intro l p e S m args below meth cd H locs cells slots mc ms lsC X D aC B sh0 sh hfl hC hR hsh hst hL hS hc hs
  cases cnd
  · exact lv_icmp_eq hC.1 hC.2.1 hd ht (fun h => K.1 h l p e S m args below meth cd H locs cells slots mc ms lsC X D aC B sh0 sh hfl hC hR hsh (tl2_ok hst) hL hS hc hs) (fun h => K.2 h l p e S m args below meth cd H locs cells slots mc ms lsC X D aC B sh0 sh hfl hC hR hsh (tl2_ok hst) hL hS hc hs)
  · exact lv_icmp_ne hC.1 hC.2.1 hd ht (fun h => K.1 h l p e S m args below meth cd H locs cells slots mc ms lsC X D aC B sh0 sh hfl hC hR hsh (tl2_ok hst) hL hS hc hs) (fun h => K.2 h l p e S m args below meth cd H locs cells slots mc ms lsC X D aC B sh0 sh hfl hC hR hsh (tl2_ok hst) hL hS hc hs)
  · exact lv_icmp_lt hC.1 hC.2.1 hd ht (fun h => K.1 h l p e S m args below meth cd H locs cells slots mc ms lsC X D aC B sh0 sh hfl hC hR hsh (tl2_ok hst) hL hS hc hs) (fun h => K.2 h l p e S m args below meth cd H locs cells slots mc ms lsC X D aC B sh0 sh hfl hC hR hsh (tl2_ok hst) hL hS hc hs)
  · exact lv_icmp_ge hC.1 hC.2.1 hd ht (fun h => K.1 h l p e S m args below meth cd H locs cells slots mc ms lsC X D aC B sh0 sh hfl hC hR hsh (tl2_ok hst) hL hS hc hs) (fun h => K.2 h l p e S m args below meth cd H locs cells slots mc ms lsC X D aC B sh0 sh hfl hC hR hsh (tl2_ok hst) hL hS hc hs)
  · exact lv_icmp_gt hC.1 hC.2.1 hd ht (fun h => K.1 h l p e S m args below meth cd H locs cells slots mc ms lsC X D aC B sh0 sh hfl hC hR hsh (tl2_ok hst) hL hS hc hs) (fun h => K.2 h l p e S m args below meth cd H locs cells slots mc ms lsC X D aC B sh0 sh hfl hC hR hsh (tl2_ok hst) hL hS hc hs)
  · exact lv_icmp_le hC.1 hC.2.1 hd ht (fun h => K.1 h l p e S m args below meth cd H locs cells slots mc ms lsC X D aC B sh0 sh hfl hC hR hsh (tl2_ok hst) hL hS hc hs) (fun h => K.2 h l p e S m args below meth cd H locs cells slots mc ms lsC X D aC B sh0 sh hfl hC hR hsh (tl2_ok hst) hL hS hc hs)
