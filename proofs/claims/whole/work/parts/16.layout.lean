/-! ===== the cells, what they refer to; the state in whole numbers ===== -/
def MRt : List (List (Option (Nat × Nat × Nat))) := [[],
  [some (11, 0, 2), some (12, 0, 4), some (14, 0, 11), some (15, 0, 17), some (16, 0, 19), some (17, 0, 35), some (18, 0, 39), none],
  [some (0, 800, 3)],
  [],
  [none, none, none, none],
  [none, none, none, none, none, none, none, none, some (0, 31, 6), some (0, 31, 7), some (0, 31, 8), some (0, 12, 9)],
  [],
  [],
  [],
  [],
  [],
  [none, none, none, none, none, some (0, 20, 12), some (0, 20, 13), some (0, 31, 14), some (0, 31, 15), some (1, 31, 16)],
  [],
  [],
  [],
  [],
  [],
  [some (0, 31, 18)],
  [],
  [none, none, none, some (0, 31, 20), some (3, 12, 21), some (0, 12, 34)],
  [],
  [some (1, 43, 22), some (1, 43, 23), some (1, 43, 24), some (1, 43, 25), some (1, 43, 26), some (1, 43, 27), some (1, 43, 28), some (1, 43, 29), some (1, 43, 30), some (1, 43, 31), some (1, 43, 32), some (1, 43, 33)],
  [],
  [],
  [],
  [],
  [],
  [],
  [],
  [],
  [],
  [],
  [],
  [],
  [],
  [none, none, some (0, 12, 36), some (0, 156, 37), none],
  [],
  [],
  [],
  [none, some (0, 10, 40), some (0, 10, 41), some (0, 10, 42)],
  [],
  [],
  [],
  [none, none, none, none, none, none, none, none, some (0, 31, 44), some (0, 31, 45), some (0, 31, 46), some (0, 12, 47)],
  [],
  [],
  [],
  [],
  [none, none, none, none, none, none, none, none, none, none, some (0, 31, 49), some (0, 31, 50), some (0, 12, 51), none, none, none, none, none, none, none, none, none, none, none, some (0, 31, 52), some (0, 12, 53), none, some (0, 63, 54), some (0, 63, 55), some (0, 630, 56), none, some (2, 800, 57), none, none, none, none, none, none, none, none, some (0, 20, 58), some (0, 20, 59), some (0, 31, 60), none, none, none, none, some (1, 31, 61), some (1, 528, 62), some (1, 528, 63), some (0, 12, 64), none, none, some (0, 49152, 65)],
  [],
  [],
  [],
  [],
  [],
  [],
  [],
  [],
  [],
  [],
  [],
  [],
  [],
  [],
  [],
  [],
  [],
  []]
def MR0 : MR := fun a k => (MRt.getD a []).getD k none
/-- references: the bench in use, the reader's draft, the reader's bytes, the tour's row -/
def MRc (nb db : Nat) (by_ rs : Option (Nat × Nat × Nat)) : MR := u2 (u2 (u2 (u2 MR0 1 7 (some (13, 0, nb))) 4 2 (some (13, 0, db))) 4 3 by_) 35 4 rs
/-- methods that are walked where they are called -/
def inlL : List Nat := [m_w_settle, m_w_haveBench, m_bn_has, m_bn_hasMask, m_bn_isSet, m_bn_isLost, m_bn_order, m_bn_orderSquared, m_bn_half, m_bn_shutterOf, m_bn_setShutter, m_mt_tells, m_mt_times, m_ra_isWhole, m_sg_forget, m_sg_startAnew, m_ac_clear, m_tp_hasRoom, m_rd_fail, m_r_refused, m_r_refusedLong, m_r_good, m_r_in, m_r_part, m_r_flaw, m_r_refusedLow, m_r_ends, m_r_plain, m_r_byteAt, m_js_length, m_js_charAt, m_js_coder, m_js_isLatin1, m_js_checkIndex, m_jl_charAt, m_jp_checkIndex]
def inlT (y : Nat) : Bool := inlL.elem y
/-- the state in whole numbers. 0: 0 ready, 1 trouble, 2 fault, 3 its place, 4 bytes of the tape, 5 N, 6 kind, 7 dark, 8 top, 9 masks, 10 lost (bits), 11 logged, 12 scanned, 13 beams, 14 blinded, 15 acts kept;
1 lights, 2 shutters, 3 noises, 4 masks (bits), 5 the log's sets and 6 reads, the latest first, 7 readings, 8 the tape, 9 acts' sorts, 10 numbers, 11 what was before, the oldest first -/
abbrev SG : Type := Nat → Nat → Int
/-- bits that hold -/
def bitsOf (f : Nat → Bool) : Nat → Nat
  | 0 => 0
  | n + 1 => bitsOf f n + (if f n then 2 ^ n else 0)
/-- how many bits -/
def pcN : Nat → Nat → Nat
  | 0, _ => 0
  | k + 1, n => n % 2 + pcN k (n / 2)
/-- a plate's cell -/
def plB (kd N i j : Nat) : Bool := match kd with
  | 0 => pcN 10 ((i + 1) &&& (j + 1)) % 2 == 1
  | _ => (i + j) % N == 0 || (List.range N).any (fun k => 0 < k && k * k % N == (i + j) % N)
def plN (kd N i : Nat) : Nat := bitsOf (plB kd N i) N
/-- benches that there are -/
def bnOK (kd N : Nat) : Bool := (kd == 0 && (N == 3 || N == 7 || N == 15 || N == 31)) || (kd == 1 && (N == 3 || N == 7 || N == 11 || N == 19 || N == 23 || N == 31))
def opB (σ : SG) : Nat := bitsOf (fun j => σ 2 j == 1) (σ 0 5).toNat
def shB (σ : SG) : Nat := bitsOf (fun j => σ 2 j == 2) (σ 0 5).toNat
/-- what holds of every state -/
def WF (σ : SG) : Prop :=
  ((σ 0 0 = 0 ∧ σ 0 5 = 0 ∧ σ 0 9 = 0 ∧ σ 0 10 = 0 ∧ σ 0 11 = 0 ∧ σ 0 12 = 0 ∧ σ 0 15 = 0) ∨ (σ 0 0 = 1 ∧ bnOK (σ 0 6).toNat (σ 0 5).toNat = true ∧ 0 ≤ σ 0 5 ∧ 0 ≤ σ 0 6 ∧ 0 ≤ σ 0 9 ∧ σ 0 9 ≤ 12))
  ∧ (0 ≤ σ 0 7 ∧ σ 0 7 ≤ 999) ∧ (0 ≤ σ 0 8 ∧ σ 0 8 ≤ 999999) ∧ (0 ≤ σ 0 10 ∧ σ 0 10 < 2 ^ (σ 0 5).toNat) ∧ (0 ≤ σ 0 11 ∧ σ 0 11 ≤ 20) ∧ (σ 0 12 = 0 ∨ σ 0 12 = 1) ∧ (0 ≤ σ 0 15 ∧ σ 0 15 ≤ 10) ∧ (0 ≤ σ 0 4 ∧ σ 0 4 ≤ 800) ∧ (0 ≤ σ 0 1 ∧ σ 0 1 ≤ 5)
  ∧ (∀ j, 0 ≤ σ 1 j ∧ σ 1 j ≤ 9999) ∧ (∀ j, σ 2 j = 0 ∨ σ 2 j = 1 ∨ σ 2 j = 2) ∧ (∀ i, -99 ≤ σ 3 i ∧ σ 3 i ≤ 99) ∧ (∀ i : Nat, (i : Int) < σ 0 9 → 0 < σ 4 i ∧ σ 4 i < 2 ^ (σ 0 5).toNat) ∧ (∀ k, 0 ≤ σ 8 k ∧ σ 8 k ≤ 255)
/-- the class: its numbers -/
def RCs (σ : SG) (mi : MI) : Prop :=
  mi 1 8 = zI (σ 0 0) ∧ mi 1 9 = zI (σ 0 1) ∧ mi 1 10 = zI (σ 0 2) ∧ (σ 0 1 = 4 → mi 1 11 = zI (σ 0 3)) ∧ mi 2 1 = zI (σ 0 4) ∧ (∀ k : Nat, (k : Int) < σ 0 4 → mi 3 k = zI (σ 8 k))
  ∧ mi 11 0 = zI (σ 0 13) ∧ mi 11 1 = zI (σ 0 14) ∧ mi 11 2 = zI (σ 0 11) ∧ mi 11 3 = zI (σ 0 12) ∧ mi 39 0 = zI (σ 0 15)
/-- the class: its bench -/
def RCb (σ : SG) (nb : Nat) (mi : MI) : Prop :=
  mi nb 0 = zI (σ 0 5) ∧ mi nb 1 = zI (σ 0 6) ∧ mi nb 2 = zI (σ 0 7) ∧ mi nb 3 = zI (σ 0 8) ∧ mi nb 4 = zI (σ 0 9) ∧ mi nb 5 = nI (opB σ) ∧ mi nb 6 = nI (shB σ) ∧ mi nb 7 = zI (σ 0 10)
  ∧ (∀ i : Nat, (i : Int) < σ 0 5 → mi (nb + 1) i = nI (plN (σ 0 6).toNat (σ 0 5).toNat i)) ∧ (∀ i : Nat, (i : Int) < σ 0 5 → mi (nb + 2) i = zI (σ 1 i)) ∧ (∀ i : Nat, (i : Int) < σ 0 5 → mi (nb + 3) i = zI (σ 3 i)) ∧ (∀ i : Nat, (i : Int) < σ 0 9 → mi (nb + 4) i = zI (σ 4 i))
/-- the class: its log -/
def RCl (σ : SG) (mi : MI) : Prop := ∀ i : Nat, (i : Int) < σ 0 11 → mi 12 i = zI (σ 5 i) ∧ mi 13 i = zI (σ 6 i)
/-- cells of the class stay, but those of a list -/
def same (L : List Nat) (mi mi' : MI) : Prop := ∀ a, a ∉ L → mi' a = mi a
/-- the reference: its numbers -/
def RMs (σ : SG) (mi : MI) : Prop :=
  mi 48 1 = zI (σ 0 1) ∧ mi 48 2 = (if σ 0 1 = 4 then zI (σ 0 3) else zI (-1)) ∧ mi 48 5 = zI (σ 0 5) ∧ mi 48 9 = zI (σ 0 9) ∧ mi 48 26 = zI (σ 0 0) ∧ mi 48 30 = zI (σ 0 15) ∧ mi 48 32 = zI (σ 0 4) ∧ mi 48 38 = zI (σ 0 2) ∧ mi 48 43 = zI (σ 0 11) ∧ mi 48 44 = zI (σ 0 13) ∧ mi 48 45 = zI (σ 0 14) ∧ mi 48 46 = zI (σ 0 12)
  ∧ (∀ k : Nat, (k : Int) < σ 0 4 → mi 57 k = (zI (σ 8 k)).toInt8.toInt32) ∧ (σ 0 0 = 1 → mi 48 6 = zI (σ 0 6) ∧ mi 48 7 = zI (σ 0 7) ∧ mi 48 8 = zI (σ 0 8)) ∧ mi 54 62 = zI (σ 0 10)
/-- the reference: its bench -/
def RMb (σ : SG) (mi : MI) : Prop :=
  (∀ i : Nat, (i : Int) < σ 0 5 → mi 49 i = nI (plN (σ 0 6).toNat (σ 0 5).toNat i)) ∧ (∀ i : Nat, (i : Int) < σ 0 5 → mi 54 i = zI (σ 1 i)) ∧ (∀ i : Nat, (i : Int) < σ 0 5 → mi 54 (31 + i) = zI (σ 2 i)) ∧ (∀ i : Nat, (i : Int) < σ 0 5 → mi 50 i = zI (σ 3 i)) ∧ (∀ i : Nat, (i : Int) < σ 0 9 → mi 51 i = zI (σ 4 i))
