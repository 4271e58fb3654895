/-! ===== switches ===== -/
section
variable {y pc : Nat} {ls : eLS} {t : List AV} {k s : Nat} {Z : FT} {c : Nat} {mr : MR} {mi : MI} {ml : ML}
theorem at_tblO {dflt lo hi : Int} {offs : Array Int} {len : Nat} {x : Int32} {tgt : Nat} (hd : decode (mCd y) pc = .ok (.tableswitch dflt lo hi offs, len)) (h : x.toInt < lo ∨ hi < x.toInt) (ht : (pc : Int) + dflt = (tgt : Int)) (K : At y tgt ls t k s Z c mr mi ml) : At y pc ls (.inl x :: t) k s Z c mr mi ml := by
  intro l p e S m args below meth cd H locs cells slots mc ms lsC X D aC B sh0 sh hfl hC hR hsh hst hL hS hc hs
  exact lv_tableOut hC.1 hC.2.1 hd h ht (K l p e S m args below meth cd H locs cells slots mc ms lsC X D aC B sh0 sh hfl hC hR hsh (tl_ok hst) hL hS hc hs)
theorem at_tblI {dflt lo hi : Int} {offs : Array Int} {len : Nat} {x : Int32} {off : Int} {tgt : Nat} (hd : decode (mCd y) pc = .ok (.tableswitch dflt lo hi offs, len)) (h1 : ¬ x.toInt < lo) (h2 : ¬ hi < x.toInt) (ho : offs[(x.toInt - lo).toNat]? = some off) (ht : (pc : Int) + off = (tgt : Int)) (K : At y tgt ls t k s Z c mr mi ml) : At y pc ls (.inl x :: t) k s Z c mr mi ml := by
  intro l p e S m args below meth cd H locs cells slots mc ms lsC X D aC B sh0 sh hfl hC hR hsh hst hL hS hc hs
  exact lv_tableIn hC.1 hC.2.1 hd h1 h2 ho ht (K l p e S m args below meth cd H locs cells slots mc ms lsC X D aC B sh0 sh hfl hC hR hsh (tl_ok hst) hL hS hc hs)
/-- a switch from 0 on -/
theorem at_tbl (tgs : List Nat) (dt n : Nat) {len : Nat} {x : Int32} (hd : decode (mCd y) pc = .ok (.tableswitch ((dt : Int) - pc) 0 ((n : Int) - 1) (tgs.map (fun (t : Nat) => (t : Int) - pc)).toArray, len)) (hn : tgs.length = n) (hn31 : n ≤ 1000)
    (K1 : ∀ (j tg : Nat), tgs[j]? = some tg → x = nI j → At y tg ls t k s Z c mr mi ml) (K2 : (x.toInt < 0 ∨ (n : Int) ≤ x.toInt) → At y dt ls t k s Z c mr mi ml) : At y pc ls (.inl x :: t) k s Z c mr mi ml := by
  by_cases h : x.toInt < 0 ∨ (n : Int) - 1 < x.toInt
  · exact at_tblO hd h (by omega) (K2 (by omega))
  · have hx : x = nI x.toInt.toNat := by
      rw [nI_z, show ((x.toInt.toNat : Nat) : Int) = x.toInt by omega]
      exact zI_of x
    have hl : x.toInt.toNat < tgs.length := by omega
    refine at_tblI (off := ((tgs[x.toInt.toNat] : Nat) : Int) - pc) (tgt := tgs[x.toInt.toNat]) hd (by omega) (by omega) ?_ (by omega) (K1 x.toInt.toNat _ (List.getElem?_eq_getElem hl) hx)
    rw [show (x.toInt - 0).toNat = x.toInt.toNat by omega, List.getElem?_toArray, List.getElem?_map, List.getElem?_eq_getElem hl]
    rfl
theorem at_lkp {dflt : Int} {ps : Array (Int × Int)} {len : Nat} {x : Int32} {off : Int} {tgt : Nat} (hd : decode (mCd y) pc = .ok (.lookupswitch dflt ps, len)) (hp : (ps.toList.zip (ps.toList.drop 1)).all (fun (a, next) => a.1 < next.1) = true) (ho : Op.lookupswitch.offset ps.toList dflt x.toInt = off) (ht : (pc : Int) + off = (tgt : Int)) (K : At y tgt ls t k s Z c mr mi ml) : At y pc ls (.inl x :: t) k s Z c mr mi ml := by
  intro l p e S m args below meth cd H locs cells slots mc ms lsC X D aC B sh0 sh hfl hC hR hsh hst hL hS hc hs
  exact lv_lookup hC.1 hC.2.1 hd hp ho ht (K l p e S m args below meth cd H locs cells slots mc ms lsC X D aC B sh0 sh hfl hC hR hsh (tl_ok hst) hL hS hc hs)
end
theorem dc_wabout : decode (mCd m_w_about) 32 = .ok (.tableswitch (((138 : Nat) : Int) - (32 : Nat)) 0 (((8 : Nat) : Int) - 1) (([80, 88, 96, 104, 112, 120, 128, 136] : List Nat).map (fun (t : Nat) => (t : Int) - (32 : Nat))).toArray, 48) := by decide +kernel
theorem dc_wsize : decode (mCd m_w_size) 1 = .ok (.tableswitch (((118 : Nat) : Int) - (1 : Nat)) 0 (((6 : Nat) : Int) - 1) (([40, 59, 78, 86, 102, 110] : List Nat).map (fun (t : Nat) => (t : Int) - (1 : Nat))).toArray, 39) := by decide +kernel
theorem dc_rabout : decode (mCd m_r_about) 19 = .ok (.tableswitch (((151 : Nat) : Int) - (19 : Nat)) 0 (((9 : Nat) : Int) - 1) (([68, 77, 86, 95, 104, 113, 127, 136, 142] : List Nat).map (fun (t : Nat) => (t : Int) - (19 : Nat))).toArray, 49) := by decide +kernel
theorem dc_rsize : decode (mCd m_r_size) 6 = .ok (.tableswitch (((82 : Nat) : Int) - (6 : Nat)) 0 (((6 : Nat) : Int) - 1) (([44, 49, 54, 59, 72, 77] : List Nat).map (fun (t : Nat) => (t : Int) - (6 : Nat))).toArray, 38) := by decide +kernel
theorem dc_rorder : decode (mCd m_r_readOrder) 9 = .ok (.lookupswitch 62 #[(3, 59), (7, 59), (11, 59), (19, 59), (23, 59), (31, 59)], 59) := by decide +kernel
def lawT : List Nat := ([228, 301, 326, 339, 352, 377, 402, 439, 464, 489, 514, 539, 564, 589, 614, 639, 676, 689, 702, 727, 752, 806, 819, 861, 915, 957, 970, 1012, 1054, 1067, 1092, 1106, 1119, 1132, 1157, 1194, 1219, 1232, 1245, 1299, 1365, 1419, 1432, 1445, 1458, 1483, 1532, 1569, 1606, 1631, 1644, 1700, 1725] : List Nat).map (fun t => t + 40)
theorem dc_law : decode (mCd m_l_law) 40 = .ok (.tableswitch (((1778 : Nat) : Int) - (40 : Nat)) 0 (((53 : Nat) : Int) - 1) (lawT.map (fun (t : Nat) => (t : Int) - (40 : Nat))).toArray, 228) := by decide +kernel
