/-! ===== the plates' square ===== -/
def plT : List ((Nat × Nat) × List Nat) := [((0, 3), [5, 6, 3]), ((0, 7), [85, 102, 51, 120, 45, 30, 75]), ((0, 15), [21845, 26214, 13107, 30840, 11565, 7710, 19275, 32640, 10965, 6630, 19635, 2040, 21165, 24990, 13515]), ((0, 31), [1431655765, 1717986918, 858993459, 2021161080, 757935405, 505290270, 1263225675, 2139127680, 718613205, 434510310, 1286818995, 133695480, 1387090605, 1637769630, 885732555, 2147450880, 715838805, 429516390, 1288483635, 126351480, 1389538605, 1642176030, 884263755, 8388480, 1428859605, 1712953830, 860671155, 2013759480, 760402605, 509731230, 1261745355]), ((1, 3), [3, 5, 6]), ((1, 7), [23, 75, 101, 114, 57, 92, 46]), ((1, 11), [571, 1309, 1678, 839, 1443, 1745, 1896, 948, 474, 237, 1142]), ((1, 19), [199411, 361849, 443068, 221534, 110767, 317527, 420907, 472597, 498442, 249221, 386754, 193377, 358832, 179416, 89708, 44854, 22427, 273357, 398822]), ((1, 23), [340831, 4364719, 6376663, 7382635, 7885621, 8137114, 4068557, 6228582, 3114291, 5751449, 7070028, 3535014, 1767507, 5078057, 6733332, 3366666, 1683333, 5035970, 2517985, 5453296, 2726648, 1363324, 681662]), ((1, 31), [303908791, 1225696219, 1686589933, 1917036790, 958518395, 1553001021, 1850242334, 925121167, 1536302407, 1841893027, 1994688337, 2071085992, 1035542996, 517771498, 258885749, 1203184698, 601592349, 1374537998, 687268999, 1417376323, 1782429985, 1964956816, 982478408, 491239204, 245619602, 122809801, 1135146724, 567573362, 283786681, 1215635164, 607817582])]
theorem plT_ok : ∀ q ∈ plT, (List.range q.1.2).map (plN q.1.1 q.1.2) = q.2 := by decide +kernel
theorem plT_bn : ∀ q ∈ bns, ∃ L, (q, L) ∈ plT := by
  intro q hq
  have h : plT.map Prod.fst = bns := by decide +kernel
  rw [← h] at hq
  obtain ⟨p, hp, rfl⟩ := List.mem_map.mp hq
  exact ⟨p.2, hp⟩
def sqCk (q : (Nat × Nat) × List Nat) : Bool := (List.range q.1.2).all (fun i => (List.range q.1.2).all (fun k => Nat.beq (4 * pcN 32 (q.2.getD i 0 &&& q.2.getD k 0)) ((q.1.2 + 1) * (bif Nat.beq i k then 2 else 1))))
theorem sq_all : ∀ q ∈ plT, sqCk q = true := by decide +kernel
theorem sq_and {kd N i k : Nat} (h : bnOK kd N = true) (hi : i < N) (hk : k < N) : 4 * pcN 32 (plN kd N i &&& plN kd N k) = (N + 1) * (if i = k then 2 else 1) := by
  obtain ⟨L, hL⟩ := plT_bn _ (bn_in h)
  have e := plT_ok _ hL
  have e : (List.range N).map (plN kd N) = L := e
  have g : ∀ j, j < N → L.getD j 0 = plN kd N j := fun j hj => by
    rw [← e, List.getD_eq_getElem?_getD, List.getElem?_map, List.getElem?_range hj]; rfl
  have c := sq_all _ hL
  unfold sqCk at c
  rw [List.all_eq_true] at c
  have c := c i (List.mem_range.mpr hi)
  rw [List.all_eq_true] at c
  have c := Nat.eq_of_beq_eq_true (c k (List.mem_range.mpr hk))
  dsimp only at c
  rw [g i hi, g k hk] at c
  rw [c]
  by_cases z : i = k
  · subst z; rw [if_pos rfl, show Nat.beq i i = true from Nat.beq_refl i]; rfl
  · rw [if_neg z, nb_ne z]; rfl
theorem pl_at {kd N i k : Nat} (hk : k < N) : bt (plN kd N i) k = if plB kd N i k then 1 else 0 := bitsOf_at _ _ hk
theorem plB_sym (kd N i k : Nat) : plB kd N i k = plB kd N k i := by
  unfold plB
  split
  · rw [Nat.and_comm]
  · rw [Nat.add_comm]
theorem pl_sym {kd N i k : Nat} (hi : i < N) (hk : k < N) : bt (plN kd N i) k = bt (plN kd N k) i := by
  rw [pl_at hk, pl_at hi, plB_sym]
theorem bt_and (a b k : Nat) : bt (a &&& b) k = bt a k * bt b k := by
  rw [bt_tb, bt_tb, bt_tb, Nat.testBit_and]
  cases a.testBit k <;> cases b.testBit k <;> rfl
theorem pcN_sum : ∀ k n, ((pcN k n : Nat) : Int) = sumZ (fun i => (bt n i : Int)) k
  | 0, n => rfl
  | k + 1, n => by
    rw [sumZ_head]
    show ((n % 2 + pcN k (n / 2) : Nat) : Int) = _
    rw [Int.natCast_add, pcN_sum k (n / 2)]
    have e0 : bt n 0 = n % 2 := by unfold bt; rw [Nat.pow_zero, Nat.div_one]
    have e1 : (fun i => (bt (n / 2) i : Int)) = fun i => (bt n (i + 1) : Int) := by
      funext i
      unfold bt
      rw [Nat.div_div_eq_div_mul, ← Nat.pow_succ']
    rw [e0, e1]
theorem sumZ_cg {f g : Nat → Int} : ∀ n : Nat, (∀ i, i < n → f i = g i) → sumZ f n = sumZ g n
  | 0, _ => rfl
  | n + 1, h => by
    show sumZ f n + f n = sumZ g n + g n
    rw [sumZ_cg n (fun i hi => h i (by omega)), h n (by omega)]
theorem sumZ_add (f g : Nat → Int) : ∀ n : Nat, sumZ (fun i => f i + g i) n = sumZ f n + sumZ g n
  | 0 => rfl
  | n + 1 => by
    show sumZ (fun i => f i + g i) n + (f n + g n) = sumZ f n + f n + (sumZ g n + g n)
    rw [sumZ_add f g n]; omega
theorem sumZ_mul (c : Int) (f : Nat → Int) : ∀ n : Nat, sumZ (fun i => c * f i) n = c * sumZ f n
  | 0 => by simp [sumZ]
  | n + 1 => by
    show sumZ (fun i => c * f i) n + c * f n = c * (sumZ f n + f n)
    rw [sumZ_mul c f n, Int.mul_add]
theorem sumZ_swap (f : Nat → Nat → Int) (m : Nat) : ∀ n : Nat, sumZ (fun i => sumZ (f i) m) n = sumZ (fun k => sumZ (fun i => f i k) n) m
  | 0 => by
    have : ∀ m, sumZ (fun _ => 0) m = 0 := by
      intro m
      induction m with
      | zero => rfl
      | succ m ih => show sumZ (fun _ => 0) m + 0 = 0; rw [ih]; rfl
    exact (this m).symm
  | n + 1 => by
    show sumZ (fun i => sumZ (f i) m) n + sumZ (f n) m = sumZ (fun k => sumZ (fun i => f i k) n + f n k) m
    rw [sumZ_swap f m n, sumZ_add]
theorem sumZ_ext {f : Nat → Int} {n : Nat} : ∀ m, n ≤ m → (∀ i, n ≤ i → f i = 0) → sumZ f m = sumZ f n
  | 0, h, _ => by have : n = 0 := by omega
                  subst this; rfl
  | m + 1, h, hz => by
    by_cases e : n = m + 1
    · rw [e]
    · show sumZ f m + f m = _
      rw [sumZ_ext m (by omega) hz, hz m (by omega), Int.add_zero]
/-- a number's bit as a whole number -/
def sZ (σ : SG) (i k : Nat) : Int := (bt (plS σ i) k : Nat)
theorem bt_hi {a k n : Nat} (h : a < 2 ^ n) (hk : n ≤ k) : bt a k = 0 := by
  unfold bt
  rw [Nat.div_eq_of_lt (Nat.lt_of_lt_of_le h (Nat.pow_le_pow_right (by decide) hk))]
theorem sq2 {σ : SG} (hW : WF σ) (hr : σ 0 0 = 1) {n : Nat} (hn : σ 0 5 = n) {i k : Nat} (hi : i < n) (hk : k < n) : 4 * sumZ (fun j => sZ σ i j * sZ σ k j) n = (σ 0 5 + 1) * (if i = k then 2 else 1) := by
  have en : (σ 0 5).toNat = n := by omega
  have h31 : n ≤ 31 := by have := hW.nn; omega
  have hb := hW.bn hr
  rw [en] at hb
  have h := sq_and hb hi hk
  have e1 : ((pcN 32 (plN (σ 0 6).toNat n i &&& plN (σ 0 6).toNat n k) : Nat) : Int) = sumZ (fun j => sZ σ i j * sZ σ k j) n := by
    rw [pcN_sum]
    have e2 : (fun j => ((bt (plN (σ 0 6).toNat n i &&& plN (σ 0 6).toNat n k) j : Nat) : Int)) = fun j => sZ σ i j * sZ σ k j := by
      funext j
      unfold sZ plS
      rw [en, bt_and, Int.natCast_mul]
    rw [e2]
    refine sumZ_ext 32 (by omega) (fun j hj => ?_)
    unfold sZ plS
    rw [en, show bt (plN (σ 0 6).toNat n i) j = 0 from bt_hi (bitsOf_lt _ _) hj]
    simp
  rw [← e1]
  have h2 := congrArg (fun x : Nat => (x : Int)) h
  simp only [Int.natCast_mul, Int.natCast_add] at h2
  rw [show ((4 : Nat) : Int) = 4 from rfl] at h2
  rw [h2, hn]
  split <;> rfl
theorem sz_sq (σ : SG) (i k : Nat) : sZ σ i k * sZ σ i k = sZ σ i k := by
  unfold sZ
  rcases bt_01 (plS σ i) k with z | z <;> rw [z] <;> rfl
theorem sq1 {σ : SG} (hW : WF σ) (hr : σ 0 0 = 1) {n : Nat} (hn : σ 0 5 = n) {i : Nat} (hi : i < n) : 2 * sumZ (sZ σ i) n = σ 0 5 + 1 := by
  have h := sq2 hW hr hn hi hi
  rw [if_pos rfl] at h
  have e : sumZ (fun j => sZ σ i j * sZ σ i j) n = sumZ (sZ σ i) n := sumZ_cg n (fun j _ => sz_sq σ i j)
  rw [e] at h
  omega
theorem s_sym {σ : SG} {n : Nat} (hn : σ 0 5 = n) {i k : Nat} (hi : i < n) (hk : k < n) : sZ σ i k = sZ σ k i := by
  have en : (σ 0 5).toNat = n := by omega
  unfold sZ plS
  rw [en, pl_sym hi hk]
theorem sum_ind (y : Nat → Int) {i : Nat} : ∀ n : Nat, sumZ (fun k => y k * (if i = k then 2 else 1)) n = sumZ y n + (if i < n then y i else 0)
  | 0 => by simp [sumZ]
  | n + 1 => by
    show sumZ (fun k => y k * (if i = k then 2 else 1)) n + y n * (if i = n then 2 else 1) = sumZ y n + y n + _
    rw [sum_ind y n]
    by_cases e : i = n
    · subst e
      rw [if_neg (by omega), if_pos rfl, if_pos (by omega)]; omega
    · rw [if_neg e]
      by_cases h : i < n
      · rw [if_pos h, if_pos (by omega)]; omega
      · rw [if_neg h, if_neg (by omega)]; omega
theorem bk_s {σ : SG} {n : Nat} (hn : σ 0 5 = n) (j : Nat) : backZ σ j = 4 * sumZ (fun i => sZ σ i j * netZ σ i) n - 2 * netA σ := by
  rw [bk_n hn]
  have : sumZ (bkF σ j) n = sumZ (fun i => sZ σ i j * netZ σ i) n := sumZ_cg n (fun i _ => by
    unfold bkF sZ
    rcases bt_01 (plS σ i) j with z | z
    · rw [if_neg (by omega), z]; simp
    · rw [if_pos z, z]; simp)
  rw [this]
theorem net_all {σ : SG} (hW : WF σ) {n : Nat} (hn : σ 0 5 = n) (hl : los σ = 0) : netA σ = sumZ (netZ σ) n ∧ ∀ i, i < n → ¬ bt (loB σ) i = 1 := by
  have h31 : n ≤ 31 := by have := hW.nn; omega
  have h0 : ∀ i, i < n → ¬ bt (loB σ) i = 1 := fun i hi z => by
    have := los_pos (show i < 32 by omega) z
    omega
  refine ⟨?_, h0⟩
  unfold netA netS
  rw [if_neg (by omega), show (σ 0 5).toNat = n by omega]
  refine sumZ_cg n (fun i hi => ?_)
  unfold netF netZ
  rw [if_neg (h0 i hi), if_neg (h0 i hi)]
theorem mul4 (a b : Int) : 4 * (a * b) = a * (4 * b) := by rw [Int.mul_left_comm]
/-- what is had back, through a plate -/
theorem sq_f1 {σ : SG} (hW : WF σ) (hr : σ 0 0 = 1) {n : Nat} (hn : σ 0 5 = n) (hl : los σ = 0) {i : Nat} (hi : i < n) : sumZ (fun k => sZ σ i k * backZ σ k) n = (σ 0 5 + 1) * netZ σ i := by
  obtain ⟨eA, -⟩ := net_all hW hn hl
  have e1 : sumZ (fun k => sZ σ i k * backZ σ k) n = sumZ (fun k => sumZ (fun i' => 4 * (sZ σ i k * sZ σ i' k) * netZ σ i') n + (-2 * netA σ) * sZ σ i k) n := sumZ_cg n (fun k _ => by
    rw [bk_s hn k, Int.mul_sub, ← Int.mul_assoc, Int.mul_comm (sZ σ i k) 4, ← sumZ_mul]
    have e2 : sumZ (fun i' => 4 * sZ σ i k * (sZ σ i' k * netZ σ i')) n = sumZ (fun i' => 4 * (sZ σ i k * sZ σ i' k) * netZ σ i') n := sumZ_cg n (fun i' _ => by
      rw [Int.mul_assoc 4, Int.mul_assoc 4, Int.mul_assoc])
    rw [e2, Int.mul_comm (sZ σ i k) (2 * netA σ), Int.neg_mul, Int.neg_mul]
    omega)
  rw [e1, sumZ_add, sumZ_swap, sumZ_mul]
  have e3 : sumZ (fun i' => sumZ (fun k => 4 * (sZ σ i k * sZ σ i' k) * netZ σ i') n) n = sumZ (fun i' => (σ 0 5 + 1) * (netZ σ i' * (if i = i' then 2 else 1))) n := sumZ_cg n (fun i' hi' => by
    have h := sq2 hW hr hn hi hi'
    have e4 : sumZ (fun k => 4 * (sZ σ i k * sZ σ i' k) * netZ σ i') n = netZ σ i' * (4 * sumZ (fun k => sZ σ i k * sZ σ i' k) n) := by
      rw [← sumZ_mul 4, ← sumZ_mul]
      exact sumZ_cg n (fun k _ => Int.mul_comm _ _)
    rw [e4, h, Int.mul_left_comm])
  rw [e3, sumZ_mul, sum_ind, if_pos hi, ← eA, Int.mul_add]
  have h1 := sq1 hW hr hn hi
  have e5 : -2 * netA σ * sumZ (sZ σ i) n = -((σ 0 5 + 1) * netA σ) := by
    rw [← h1, Int.mul_comm (2 * sumZ (sZ σ i) n), Int.neg_mul, Int.neg_mul, Int.mul_assoc 2, Int.mul_left_comm 2]
  rw [e5]
  omega
/-- if plates read lights, these are had back -/
theorem sq_f2 {σ : SG} (hW : WF σ) (hr : σ 0 0 = 1) {n : Nat} (hn : σ 0 5 = n) (hl : los σ = 0) {z : Nat → Int} (hz : ∀ i, i < n → netZ σ i = sumZ (fun k => sZ σ i k * z k) n) {j : Nat} (hj : j < n) : backZ σ j = (σ 0 5 + 1) * z j := by
  obtain ⟨eA, -⟩ := net_all hW hn hl
  rw [bk_s hn, eA]
  have e1 : sumZ (fun i => sZ σ i j * netZ σ i) n = sumZ (fun k => z k * sumZ (fun i => sZ σ j i * sZ σ k i) n) n := by
    have e2 : sumZ (fun i => sZ σ i j * netZ σ i) n = sumZ (fun i => sumZ (fun k => z k * (sZ σ j i * sZ σ k i)) n) n := sumZ_cg n (fun i hi => by
      rw [hz i hi, ← sumZ_mul]
      refine sumZ_cg n (fun k hk => ?_)
      rw [s_sym hn hi hj, s_sym hn hi hk, ← Int.mul_assoc, Int.mul_comm])
    rw [e2, sumZ_swap]
    exact sumZ_cg n (fun k _ => by rw [sumZ_mul])
  have e3 : 4 * sumZ (fun k => z k * sumZ (fun i => sZ σ j i * sZ σ k i) n) n = (σ 0 5 + 1) * (sumZ z n + z j) := by
    rw [← sumZ_mul]
    have e4 : sumZ (fun k => 4 * (z k * sumZ (fun i => sZ σ j i * sZ σ k i) n)) n = sumZ (fun k => (σ 0 5 + 1) * (z k * (if j = k then 2 else 1))) n := sumZ_cg n (fun k hk => by
      rw [mul4, sq2 hW hr hn hj hk, Int.mul_left_comm])
    rw [e4, sumZ_mul, sum_ind, if_pos hj]
  have e5 : 2 * sumZ (netZ σ) n = (σ 0 5 + 1) * sumZ z n := by
    have e6 : sumZ (netZ σ) n = sumZ (fun k => z k * sumZ (sZ σ k) n) n := by
      have e7 : sumZ (netZ σ) n = sumZ (fun i => sumZ (fun k => z k * sZ σ k i) n) n := sumZ_cg n (fun i hi => by
        rw [hz i hi]
        exact sumZ_cg n (fun k hk => by rw [s_sym hn hi hk, Int.mul_comm]))
      rw [e7, sumZ_swap]
      exact sumZ_cg n (fun k _ => by rw [sumZ_mul])
    rw [e6, ← sumZ_mul, ← sumZ_mul]
    refine sumZ_cg n (fun k hk => ?_)
    rw [Int.mul_left_comm, sq1 hW hr hn hk, Int.mul_comm]
  rw [e1, e3, e5, Int.mul_add]
  omega
