/-! ===== the rows are the code's: checked by computation ===== -/
def wAt (i : Nat) (w : Cond) : Bool := decide (lw_tbl[i]? = some w) && goodWord w
theorem wAt_mem {i : Nat} {w : Cond} (h : wAt i w = true) : w ∈ WT := by
  simp only [wAt, Bool.and_eq_true, decide_eq_true_eq] at h
  exact List.mem_filter.mpr ⟨List.mem_of_getElem? h.1, h.2⟩
def rlen (ins : Instr) (d : Nat) : Nat := match ins with
  | .iload _ => 2
  | .lload _ => 2
  | .aload _ => 2
  | .istore _ => 2
  | .lstore _ => 2
  | .astore _ => 2
  | .bipush _ => 2
  | .ldc _ => 2
  | .newarray _ => 2
  | .sipush _ => 3
  | .ldc_w _ => 3
  | .ldc2_w _ => 3
  | .iinc _ _ => 3
  | .goto _ => 3
  | .ifCond _ _ => 3
  | .if_icmp _ _ => 3
  | .getfield _ => 3
  | .putfield _ => 3
  | .getstatic _ => 3
  | .invokevirtual _ => 3
  | .invokestatic _ => 3
  | .invokespecial _ => 3
  | .new _ => 3
  | .multianewarray _ _ => 4
  | .tableswitch _ _ _ _ => d
  | .lookupswitch _ _ => d
  | _ => 1
def ftOK (kd : Nat) (d : String) : Bool := match kd, parseFieldDescriptor d with
  | 0, some .int => true
  | 1, some .long => true
  | 3, some .boolean => true
  | 2, some ty => ty.isReference
  | _, _ => false
def fCk (own : String) (idx x1 x2 x3 : Nat) : Bool := match clT[x1]? with
  | some (C, T, N) => Nat.blt x2 N && wAt x3 (.fieldLink own idx C (T x2).2.1 (T x2).2.2.1) && decide ((T x2).1 = C) && ftOK (fk x1 x2) (T x2).2.2.1
  | none => false
def fFin (x1 x2 : Nat) : Bool := match clT[x1]? with
  | some (_, T, _) => (T x2).2.2.2
  | none => true
def rwOK (own nmM : String) (cd : ByteArray) (mx : Nat) (r : Row) : Bool := match r with
  | (pc, ins, nx, x1, x2, x3, v, _) =>
    decide (decode cd pc = .ok (ins, rlen ins (nx - pc))) && Nat.beq nx (pc + rlen ins (nx - pc)) && (match ins with
    | .istore i => Nat.blt i mx
    | .istore_n i => Nat.blt i.val mx
    | .lstore i => Nat.blt (i + 1) mx
    | .lstore_n i => Nat.blt (i.val + 1) mx
    | .astore i => Nat.blt i mx
    | .astore_n i => Nat.blt i.val mx
    | .iinc i n => Nat.blt i mx && decide (Int32.ofInt n = cI x1 x2)
    | .iconst n => decide (Int32.ofInt n = cI x1 x2)
    | .bipush n => decide ((Int8.ofInt n).toInt32 = cI x1 x2)
    | .sipush n => decide ((Int16.ofInt n).toInt32 = cI x1 x2)
    | .lconst n => decide (Int64.ofNat n.val = cL x1 x2)
    | .ldc idx => (match v with
      | 0 => wAt x3 (.constant own idx (cI x1 x2))
      | 1 => (match ldT[x2]? with
        | some (o, i, _, t) => decide (o = own) && Nat.beq i idx && Nat.beq t x1
        | none => false)
      | _ => true)
    | .ldc_w idx => (match v with
      | 0 => wAt x3 (.constant own idx (cI x1 x2))
      | _ => true)
    | .ldc2_w idx => (match v with
      | 0 => wAt x3 (.constantLong own idx (cL x1 x2))
      | _ => true)
    | .goto off => decide ((pc : Int) + off = (x1 : Int))
    | .ifCond _ off => decide ((pc : Int) + off = (x1 : Int))
    | .if_icmp _ off => decide ((pc : Int) + off = (x1 : Int))
    | .getfield idx => (bif Nat.beq x1 90 then (match x2 with
        | 0 => wAt x3 (.fieldLink own idx "java/lang/String" "value" "[B")
        | 1 => wAt x3 (.fieldLink own idx "java/lang/String" "coder" "B")
        | _ => true)
      else (Nat.beq x1 99 || fCk own idx x1 x2 x3))
    | .putfield idx => fCk own idx x1 x2 x3 && (!fFin x1 x2 || (decide (nmM = "<init>") && (match clT[x1]? with
        | some (C, _, _) => decide (C = own)
        | none => false)))
    | .getstatic idx => (match x1 with
        | 0 => wAt x3 (.fieldLink own idx "java/lang/String" "COMPACT_STRINGS" "Z")
        | 1 => wAt x3 (.fieldLink own idx "WeighingPlates$Reader" "PRIMES" "[I")
        | 2 => wAt x3 (.fieldLink own idx "jdk/internal/util/Preconditions" "SIOOBE_FORMATTER" "Ljava/util/function/BiFunction;")
        | _ => true)
    | .new idx => (Nat.beq x1 99 || (match clT[x1]? with
        | some (C, _, _) => wAt x3 (.classLink own idx C)
        | none => false))
    | .invokevirtual idx => (Nat.beq x2 9 || (Nat.beq x2 0 && Nat.blt x1 282 && Nat.beq (mKd x1) 0 && wAt x3 (.methodLink own idx (mNm x1))))
    | .invokestatic idx => (Nat.beq x2 9 || (Nat.beq x2 5 && wAt x3 (.methodLink own idx Lib.Math.max.name)) || (Nat.beq x2 6 && wAt x3 (.methodLink own idx Lib.Math.min.name)) || (Nat.beq x2 7 && wAt x3 (.methodLink own idx Lib.MathLoose.abs_long.x)) || (Nat.beq x2 1 && Nat.blt x1 282 && Nat.beq (mKd x1) 1 && wAt x3 (.methodLink own idx (mNm x1))))
    | .invokespecial idx => (Nat.beq x2 9 || (Nat.beq x2 4 && wAt x3 (.methodLink own idx objectInit)) || (Nat.beq x2 2 && Nat.blt x1 282 && Nat.beq (mKd x1) 2 && wAt x3 (.methodLink own idx (mNm x1))) || (Nat.beq x2 3 && Nat.blt x1 282 && Nat.beq (mKd x1) 2 && decide (nestT[x3]? = some (own, idx, mNm x1))))
    | _ => true)
def chn : List Row → Bool
  | a :: b :: l => Nat.beq a.2.2.1 b.1 && chn (b :: l)
  | _ => true
def okH (M : MT) : Bool := match M with
  | (nm, cd, mx, rt, T, _, na, kd, ci, wc, wi, wa, wb) =>
    chn T && (match T with
      | r :: _ => Nat.beq r.1 0
      | [] => false) && plainName nm.cls && Nat.ble mx 19 && decide ((parseMethodDescriptor nm.desc).map (fun d => d.parameters.length) = some na) && decide (nm.cls ≠ "java/lang/invoke/MethodHandle") && decide (nm.cls ≠ "java/lang/invoke/VarHandle") && (match kd with
      | 0 => wAt wc (.code nm cd mx rt) && wAt wi (.initialized nm.cls) && wAt wa (.instanceMethod nm) && wAt wb (.selects nm.cls nm nm) && (bif Nat.beq ci 90 then decide (nm.cls = "java/lang/String") else (match clT[ci]? with
        | some (C, _, _) => decide (nm.cls = C)
        | none => false))
      | 1 => wAt wc (.code nm cd mx rt) && wAt wi (.initialized nm.cls) && wAt wa (.static nm)
      | 2 => wAt wc (.code nm cd mx rt) && wAt wi (.initialized nm.cls) && wAt wa (.instanceMethod nm) && decide (nm.name = "<init>")
      | _ => true)
def okT (M : MT) : Bool := M.2.2.2.2.1.all (rwOK M.1.cls M.1.name M.2.1 M.2.2.1) && okH M
/-- a class: its words, its fields' types, their names -/
def clOK (ci : Nat) : Bool := match clT[ci]? with
  | some (C, T, N) => (u_ws C T N).all (fun w => decide (w ∈ lw_tbl) && goodWord w) && decide (Cond.instantiable C N ∈ lw_tbl) && goodWord (Cond.instantiable C N) && decide (Cond.initialized C ∈ lw_tbl) && goodWord (Cond.initialized C) && Nat.beq N (clN ci) && (List.range N).all (fun k => ftOK (fk ci k) (T k).2.2.1)
     && (List.range N).all (fun a => (List.range N).all (fun b => Nat.beq a b || decide ((T a).2.1 ≠ (T b).2.1)))
  | none => false
theorem clOK_all : (List.range 10).all clOK = true := by decide +kernel
theorem arr_words : ∀ ty ∈ [FieldType.int, .long, .byte], Cond.arrayClass ty ∈ WT := by decide +kernel

theorem okT_ac_init : okT M_ac_init = true := by decide +kernel
theorem okT_ac_clear : okT M_ac_clear = true := by decide +kernel
theorem okT_ac_note : okT M_ac_note = true := by decide +kernel
theorem okT_ac_dropOldest : okT M_ac_dropOldest = true := by decide +kernel
theorem okT_ac_takeBack : okT M_ac_takeBack = true := by decide +kernel
theorem okT_bn_init : okT M_bn_init = true := by decide +kernel
theorem okT_bn_clear : okT M_bn_clear = true := by decide +kernel
theorem okT_bn_makeDoubled : okT M_bn_makeDoubled = true := by decide +kernel
theorem okT_bn_makeSquares : okT M_bn_makeSquares = true := by decide +kernel
theorem okT_bn_has : okT M_bn_has = true := by decide +kernel
theorem okT_bn_hasMask : okT M_bn_hasMask = true := by decide +kernel
theorem okT_bn_isSet : okT M_bn_isSet = true := by decide +kernel
theorem okT_bn_isLost : okT M_bn_isLost = true := by decide +kernel
theorem okT_bn_lostCount : okT M_bn_lostCount = true := by decide +kernel
theorem okT_bn_order : okT M_bn_order = true := by decide +kernel
theorem okT_bn_orderSquared : okT M_bn_orderSquared = true := by decide +kernel
theorem okT_bn_half : okT M_bn_half = true := by decide +kernel
theorem okT_bn_monitor : okT M_bn_monitor = true := by decide +kernel
theorem okT_bn_shutterOf : okT M_bn_shutterOf = true := by decide +kernel
theorem okT_bn_setShutter : okT M_bn_setShutter = true := by decide +kernel
theorem okT_bn_readOf : okT M_bn_readOf = true := by decide +kernel
theorem okT_bn_aloneOf : okT M_bn_aloneOf = true := by decide +kernel
theorem okT_mt_init : okT M_mt_init = true := by decide +kernel
theorem okT_mt_build : okT M_mt_build = true := by decide +kernel
theorem okT_mt_tells : okT M_mt_tells = true := by decide +kernel
theorem okT_mt_times : okT M_mt_times = true := by decide +kernel
theorem okT_mt_squares : okT M_mt_squares = true := by decide +kernel
theorem okT_mt_sumOfLooks : okT M_mt_sumOfLooks = true := by decide +kernel
theorem okT_mt_allAgree : okT M_mt_allAgree = true := by decide +kernel
theorem okT_mt_load : okT M_mt_load = true := by decide +kernel
theorem okT_mt_firstColour : okT M_mt_firstColour = true := by decide +kernel
theorem okT_mt_clearPivot : okT M_mt_clearPivot = true := by decide +kernel
theorem okT_mt_findTold : okT M_mt_findTold = true := by decide +kernel
theorem okT_mt_hasOnlyPivot : okT M_mt_hasOnlyPivot = true := by decide +kernel
theorem okT_ra_part : okT M_ra_part = true := by decide +kernel
theorem okT_ra_isWhole : okT M_ra_isWhole = true := by decide +kernel
theorem okT_ra_commonDivisor : okT M_ra_commonDivisor = true := by decide +kernel
theorem okT_rd_init : okT M_rd_init = true := by decide +kernel
theorem okT_rd_readAll : okT M_rd_readAll = true := by decide +kernel
theorem okT_rd_fail : okT M_rd_fail = true := by decide +kernel
theorem okT_rd_next : okT M_rd_next = true := by decide +kernel
theorem okT_rd_runOf : okT M_rd_runOf = true := by decide +kernel
theorem okT_rd_wholeOf : okT M_rd_wholeOf = true := by decide +kernel
theorem okT_rd_isWord : okT M_rd_isWord = true := by decide +kernel
theorem okT_rd_takeWord : okT M_rd_takeWord = true := by decide +kernel
theorem okT_rd_takeWhole : okT M_rd_takeWhole = true := by decide +kernel
theorem okT_rd_takeNew : okT M_rd_takeNew = true := by decide +kernel
theorem okT_rd_takeLine : okT M_rd_takeLine = true := by decide +kernel
theorem okT_rd_takeBench : okT M_rd_takeBench = true := by decide +kernel
theorem okT_rd_isPrimeOfBench : okT M_rd_isPrimeOfBench = true := by decide +kernel
theorem okT_rd_takeLight : okT M_rd_takeLight = true := by decide +kernel
theorem okT_rd_takeStuck : okT M_rd_takeStuck = true := by decide +kernel
theorem okT_rd_takeNoise : okT M_rd_takeNoise = true := by decide +kernel
theorem okT_rd_takeLost : okT M_rd_takeLost = true := by decide +kernel
theorem okT_rd_takeMask : okT M_rd_takeMask = true := by decide +kernel
theorem okT_sg_init : okT M_sg_init = true := by decide +kernel
theorem okT_sg_startAnew : okT M_sg_startAnew = true := by decide +kernel
theorem okT_sg_forget : okT M_sg_forget = true := by decide +kernel
theorem okT_sg_lookAt : okT M_sg_lookAt = true := by decide +kernel
theorem okT_sg_keep : okT M_sg_keep = true := by decide +kernel
theorem okT_sg_scanAll : okT M_sg_scanAll = true := by decide +kernel
theorem okT_sg_findNets : okT M_sg_findNets = true := by decide +kernel
theorem okT_sg_findBacks : okT M_sg_findBacks = true := by decide +kernel
theorem okT_sg_errorOf : okT M_sg_errorOf = true := by decide +kernel
theorem okT_su_init : okT M_su_init = true := by decide +kernel
theorem okT_su_count : okT M_su_count = true := by decide +kernel
theorem okT_su_numberOf : okT M_su_numberOf = true := by decide +kernel
theorem okT_su_holds : okT M_su_holds = true := by decide +kernel
theorem okT_su_supposeFine : okT M_su_supposeFine = true := by decide +kernel
theorem okT_su_supposeOpen : okT M_su_supposeOpen = true := by decide +kernel
theorem okT_su_supposeShut : okT M_su_supposeShut = true := by decide +kernel
theorem okT_su_put : okT M_su_put = true := by decide +kernel
theorem okT_su_sumIsRight : okT M_su_sumIsRight = true := by decide +kernel
theorem okT_su_logIsRight : okT M_su_logIsRight = true := by decide +kernel
theorem okT_tp_init : okT M_tp_init = true := by decide +kernel
theorem okT_tp_hasRoom : okT M_tp_hasRoom = true := by decide +kernel
theorem okT_tp_put : okT M_tp_put = true := by decide +kernel
theorem okT_tr_init : okT M_tr_init = true := by decide +kernel
theorem okT_tr_find : okT M_tr_find = true := by decide +kernel
theorem okT_tr_findSteps : okT M_tr_findSteps = true := by decide +kernel
theorem okT_tr_fewestFrom : okT M_tr_fewestFrom = true := by decide +kernel
theorem okT_tr_movesBy : okT M_tr_movesBy = true := by decide +kernel
theorem okT_tr_walk : okT M_tr_walk = true := by decide +kernel
theorem okT_tr_nextOf : okT M_tr_nextOf = true := by decide +kernel
theorem okT_w_init : okT M_w_init = true := by decide +kernel
theorem okT_w_feed : okT M_w_feed = true := by decide +kernel
theorem okT_w_bench : okT M_w_bench = true := by decide +kernel
theorem okT_w_fault : okT M_w_fault = true := by decide +kernel
theorem okT_w_where : okT M_w_where = true := by decide +kernel
theorem okT_w_about : okT M_w_about = true := by decide +kernel
theorem okT_w_plate : okT M_w_plate = true := by decide +kernel
theorem okT_w_common : okT M_w_common = true := by decide +kernel
theorem okT_w_which : okT M_w_which = true := by decide +kernel
theorem okT_w_apart : okT M_w_apart = true := by decide +kernel
theorem okT_w_odd : okT M_w_odd = true := by decide +kernel
theorem okT_w_light : okT M_w_light = true := by decide +kernel
theorem okT_w_shutter : okT M_w_shutter = true := by decide +kernel
theorem okT_w_noise : okT M_w_noise = true := by decide +kernel
theorem okT_w_lost : okT M_w_lost = true := by decide +kernel
theorem okT_w_look : okT M_w_look = true := by decide +kernel
theorem okT_w_logged : okT M_w_logged = true := by decide +kernel
theorem okT_w_scan : okT M_w_scan = true := by decide +kernel
theorem okT_w_blinds : okT M_w_blinds = true := by decide +kernel
theorem okT_w_reading : okT M_w_reading = true := by decide +kernel
theorem okT_w_net : okT M_w_net = true := by decide +kernel
theorem okT_w_back : okT M_w_back = true := by decide +kernel
theorem okT_w_odds : okT M_w_odds = true := by decide +kernel
theorem okT_w_more : okT M_w_more = true := by decide +kernel
theorem okT_w_error : okT M_w_error = true := by decide +kernel
theorem okT_w_errors : okT M_w_errors = true := by decide +kernel
theorem okT_w_worst : okT M_w_worst = true := by decide +kernel
theorem okT_w_share : okT M_w_share = true := by decide +kernel
theorem okT_w_grains : okT M_w_grains = true := by decide +kernel
theorem okT_w_better : okT M_w_better = true := by decide +kernel
theorem okT_w_alone : okT M_w_alone = true := by decide +kernel
theorem okT_w_alones : okT M_w_alones = true := by decide +kernel
theorem okT_w_closer : okT M_w_closer = true := by decide +kernel
theorem okT_w_suspects : okT M_w_suspects = true := by decide +kernel
theorem okT_w_suspect : okT M_w_suspect = true := by decide +kernel
theorem okT_w_supposed : okT M_w_supposed = true := by decide +kernel
theorem okT_w_mask : okT M_w_mask = true := by decide +kernel
theorem okT_w_rank : okT M_w_rank = true := by decide +kernel
theorem okT_w_told : okT M_w_told = true := by decide +kernel
theorem okT_w_solved : okT M_w_solved = true := by decide +kernel
theorem okT_w_factor : okT M_w_factor = true := by decide +kernel
theorem okT_w_shareBy : okT M_w_shareBy = true := by decide +kernel
theorem okT_w_fewer : okT M_w_fewer = true := by decide +kernel
theorem okT_w_agree : okT M_w_agree = true := by decide +kernel
theorem okT_w_tour : okT M_w_tour = true := by decide +kernel
theorem okT_w_tourAt : okT M_w_tourAt = true := by decide +kernel
theorem okT_w_sign : okT M_w_sign = true := by decide +kernel
theorem okT_w_shine : okT M_w_shine = true := by decide +kernel
theorem okT_w_stick : okT M_w_stick = true := by decide +kernel
theorem okT_w_lose : okT M_w_lose = true := by decide +kernel
theorem okT_w_undo : okT M_w_undo = true := by decide +kernel
theorem okT_w_stuck : okT M_w_stuck = true := by decide +kernel
theorem okT_w_size : okT M_w_size = true := by decide +kernel
theorem okT_w_trouble : okT M_w_trouble = true := by decide +kernel
theorem okT_w_settle : okT M_w_settle = true := by decide +kernel
theorem okT_w_haveBench : okT M_w_haveBench = true := by decide +kernel
theorem okT_w_haveOne : okT M_w_haveOne = true := by decide +kernel
theorem okT_w_haveSet : okT M_w_haveSet = true := by decide +kernel
theorem okT_w_haveBacks : okT M_w_haveBacks = true := by decide +kernel
theorem okT_w_haveBackOf : okT M_w_haveBackOf = true := by decide +kernel
theorem okT_w_haveSuspects : okT M_w_haveSuspects = true := by decide +kernel
theorem okT_w_haveTold : okT M_w_haveTold = true := by decide +kernel
theorem okT_ji_bitCount : okT M_ji_bitCount = true := by decide +kernel
theorem okT_js_length : okT M_js_length = true := by decide +kernel
theorem okT_js_charAt : okT M_js_charAt = true := by decide +kernel
theorem okT_js_coder : okT M_js_coder = true := by decide +kernel
theorem okT_js_isLatin1 : okT M_js_isLatin1 = true := by decide +kernel
theorem okT_js_checkIndex : okT M_js_checkIndex = true := by decide +kernel
theorem okT_jl_charAt : okT M_jl_charAt = true := by decide +kernel
theorem okT_jp_checkIndex : okT M_jp_checkIndex = true := by decide +kernel
