theorem pb_1 : ((vx_atS "WeighingPlates" 356 nseN ["java/lang/RuntimeException", "java/lang/Exception"]).filter goodWord).all (fun w => lw_tbl.any (fun v => decide (v = w))) = true := by decide +kernel
theorem pb_2 : (Bundle.throwableAtoms.filter goodWord).all (fun w => lw_tbl.any (fun v => decide (v = w))) = true := by decide +kernel
theorem pb_3 : ∀ w ∈ Bundle.throwableSAtoms.filter goodWord, w ∈ lw_tbl := by decide +kernel
theorem pb_4 : ∀ w ∈ (Bundle.chainSAtoms nseN ["java/lang/RuntimeException", "java/lang/Exception"]).filter goodWord, w ∈ lw_tbl := by decide +kernel
