/-! ===== determinants: bounds by weights of columns; what they depend on ===== -/
def prW (wt : Nat → Nat) : List Nat → Nat
  | [] => 1
  | p :: r => wt p * prW wt r
theorem lap_bdW {wt : Nat → Nat} {A : Nat} : ∀ (r : List Nat) (b : Nat) (u : Nat → Int) (g : List Nat → Int), (∀ q, (u q).natAbs ≤ A * wt q) → (∀ l, l.length + 1 = r.length → (g l).natAbs ≤ b * prW wt l) → (lap u r g).natAbs ≤ r.length * (A * b * prW wt r)
  | [], b, u, g, hu, hg => by simp [lap]
  | p :: r, b, u, g, hu, hg => by
    have h1 := lap_bdW r (b * wt p) u (fun l => g (p :: l)) hu (fun l hl => by
      have := hg (p :: l) (by simp; omega)
      rw [Nat.mul_assoc]; exact this)
    have h2 := hg r rfl
    have h3 := hu p
    show (u p * g r - lap u r (fun l => g (p :: l))).natAbs ≤ (r.length + 1) * (A * b * (wt p * prW wt r))
    have h4 : (u p * g r).natAbs ≤ A * b * (wt p * prW wt r) := by
      rw [Int.natAbs_mul]
      calc (u p).natAbs * (g r).natAbs ≤ (A * wt p) * (b * prW wt r) := Nat.mul_le_mul h3 h2
        _ = A * b * (wt p * prW wt r) := by rw [Nat.mul_mul_mul_comm]
    have h5 : A * (b * wt p) * prW wt r = A * b * (wt p * prW wt r) := by rw [← Nat.mul_assoc, ← Nat.mul_assoc]
    rw [h5] at h1
    rw [Nat.add_mul, Nat.one_mul]
    omega
theorem two_bd {a b c d x y : Nat} (h1 : a ≤ x) (h2 : b ≤ y) (h3 : c ≤ x) (h4 : d ≤ y) : ((a : Int) * d + -(c : Int) * b).natAbs ≤ x * y := by
  have e1 : a * d ≤ x * y := Nat.mul_le_mul h1 h4
  have e2 : c * b ≤ x * y := Nat.mul_le_mul h3 h2
  rw [Int.neg_mul, ← Int.natCast_mul, ← Int.natCast_mul]
  omega
theorem lap2_bdW {wt : Nat → Nat} {v w : Nat → Int} (hv : ∀ q, 0 ≤ v q ∧ v q ≤ wt q) (hw : ∀ q, 0 ≤ w q ∧ w q ≤ wt q) : ∀ (r : List Nat) (b : Nat) (g : List Nat → Int), (∀ l, l.length + 2 = r.length → (g l).natAbs ≤ b * prW wt l) → (lap v r (fun l => lap w l g)).natAbs ≤ r.length * (r.length - 1) / 2 * (b * prW wt r)
  | [], b, g, hg => by simp [lap]
  | p :: r, b, g, hg => by
    have h1 := lap2_bdW hv hw r (b * wt p) (fun l => g (p :: l)) (fun l hl => by
      have := hg (p :: l) (by simp; omega)
      rw [Nat.mul_assoc]; exact this)
    have h2 := lap_bdW (wt := wt) (A := wt p) r b (fun q => v p * w q + -(w p) * v q) g (fun q => by
      have a1 := hv p; have a2 := hv q; have a3 := hw p; have a4 := hw q
      have e1 : v p = ((v p).toNat : Int) := by omega
      have e2 : v q = ((v q).toNat : Int) := by omega
      have e3 : w p = ((w p).toNat : Int) := by omega
      have e4 : w q = ((w q).toNat : Int) := by omega
      rw [e1, e2, e3, e4]
      exact two_bd (by omega) (by omega) (by omega) (by omega)) (fun l hl => hg l (by simp; omega))
    rw [lap_vlin, Int.neg_mul] at h2
    have e : lap v (p :: r) (fun l => lap w l g) = (v p * lap w r g + -(w p * lap v r g)) + lap v r (fun l => lap w l (fun l' => g (p :: l'))) := by
      show v p * lap w r g - lap v r (fun l => w p * g l - lap w l (fun l' => g (p :: l'))) = _
      have e2 : (fun l => w p * g l - lap w l (fun l' => g (p :: l'))) = fun l => w p * g l + (-1) * lap w l (fun l' => g (p :: l')) := funext fun l => by omega
      rw [e2, lap_lin]
      omega
    rw [e]
    have e5 : wt p * b * prW wt r = b * (wt p * prW wt r) := by rw [Nat.mul_comm (wt p) b, Nat.mul_assoc]
    have e6 : b * wt p * prW wt r = b * (wt p * prW wt r) := Nat.mul_assoc _ _ _
    rw [e5] at h2
    rw [e6] at h1
    have h3 : (r.length + 1) * (r.length + 1 - 1) / 2 * (b * (wt p * prW wt r)) = r.length * (b * (wt p * prW wt r)) + r.length * (r.length - 1) / 2 * (b * (wt p * prW wt r)) := by
      rw [← Nat.add_mul]
      congr 1
      rw [Nat.add_sub_cancel]
      cases hr : r.length with
      | zero => rfl
      | succ n =>
        rw [Nat.add_sub_cancel]
        have e3 : (n + 1 + 1) * (n + 1) = (n + 1) * n + (n + 1) * 2 := by rw [← Nat.mul_add, Nat.mul_comm]
        rw [e3, Nat.add_mul_div_right _ _ (by decide)]
        omega
    show _ ≤ (r.length + 1) * (r.length + 1 - 1) / 2 * (b * (wt p * prW wt r))
    rw [h3]
    omega
theorem dt_bdW {wt : Nat → Nat} : ∀ (vs : List (Nat → Int)) (ps : List Nat), (∀ v ∈ vs, ∀ q, 0 ≤ v q ∧ v q ≤ wt q) → ps.length = vs.length → (dt vs ps).natAbs ≤ bb vs.length * prW wt ps
  | [], [], _, _ => by simp [dt, bb, prW]
  | [v], [p], h, _ => by
    have := h v List.mem_cons_self p
    show (v p * 1 - 0).natAbs ≤ 1 * (wt p * 1)
    omega
  | v :: w :: vs, ps, h, hl => by
    have h1 := lap2_bdW (wt := wt) (h v List.mem_cons_self) (h w (List.mem_cons_of_mem _ List.mem_cons_self)) ps (bb vs.length) (dt vs) (fun l hl' => dt_bdW vs l (fun u hu => h u (List.mem_cons_of_mem _ (List.mem_cons_of_mem _ hu))) (by simp at hl; omega))
    rw [hl] at h1
    have e : ps.length = vs.length + 2 := hl
    show (lap v ps (fun l => lap w l (dt vs))).natAbs ≤ (vs.length + 2) * (vs.length + 1) / 2 * bb vs.length * prW wt ps
    rw [Nat.mul_assoc]
    exact h1
theorem lap_cg {v w : Nat → Int} : ∀ (r : List Nat) (f g : List Nat → Int), (∀ q ∈ r, v q = w q) → (∀ l, (∀ q ∈ l, q ∈ r) → f l = g l) → lap v r f = lap w r g
  | [], f, g, _, _ => rfl
  | p :: r, f, g, hv, hf => by
    show v p * f r - lap v r (fun l => f (p :: l)) = w p * g r - lap w r (fun l => g (p :: l))
    rw [hv p List.mem_cons_self, hf r (fun q hq => List.mem_cons_of_mem _ hq), lap_cg r (fun l => f (p :: l)) (fun l => g (p :: l)) (fun q hq => hv q (List.mem_cons_of_mem _ hq)) (fun l hl => hf (p :: l) (fun q hq => by
      rcases List.mem_cons.mp hq with e | e
      · exact e ▸ List.mem_cons_self
      · exact List.mem_cons_of_mem _ (hl q e)))]
/-- rows that are alike in some columns -/
def cgV (P : Nat → Prop) : List (Nat → Int) → List (Nat → Int) → Prop
  | [], [] => True
  | v :: vs, w :: ws => (∀ q, P q → v q = w q) ∧ cgV P vs ws
  | _, _ => False
theorem dt_cg {P : Nat → Prop} : ∀ (vs ws : List (Nat → Int)) (l : List Nat), cgV P vs ws → (∀ q ∈ l, P q) → dt vs l = dt ws l
  | [], [], _, _, _ => rfl
  | v :: vs, w :: ws, l, h, hl => lap_cg l (dt vs) (dt ws) (fun q hq => h.1 q (hl q hq)) (fun l' hl' => dt_cg vs ws l' h.2 (fun q hq => hl q (hl' q hq)))
  | [], _ :: _, _, h, _ => h.elim
  | _ :: _, [], _, h, _ => h.elim
theorem cgV_map {P : Nat → Prop} {f g : Nat → Nat → Int} (h : ∀ i q, P q → f i q = g i q) : ∀ ms : List Nat, cgV P (ms.map f) (ms.map g)
  | [] => trivial
  | m :: ms => ⟨fun q hq => h m q hq, cgV_map h ms⟩
/-- a column that all rows have 0 in -/
theorem Sp_at {G : Nat → Int} {q : Nat} : ∀ {vs : List (Nat → Int)}, Sp vs G → (∀ v ∈ vs, v q = 0) → G q = 0
  | [], h, _ => h q
  | v :: vs, ⟨a, G', hG, e⟩, hz => by
    rw [e, hz v List.mem_cons_self, Sp_at hG (fun u hu => hz u (List.mem_cons_of_mem _ hu))]; simp
theorem sumZ_lin (a : Int) (f g : Nat → Int) : ∀ n, sumZ (fun i => a * f i + g i) n = a * sumZ f n + sumZ g n
  | 0 => by simp [sumZ]
  | n + 1 => by
    show sumZ (fun i => a * f i + g i) n + (a * f n + g n) = a * (sumZ f n + f n) + (sumZ g n + g n)
    rw [sumZ_lin a f g n, Int.mul_add]; omega
theorem sumZ_c0 : ∀ (f : Nat → Int) n, (∀ i, i < n → f i = 0) → sumZ f n = 0
  | _, 0, _ => rfl
  | f, n + 1, h => by
    show sumZ f n + f n = 0
    rw [sumZ_c0 f n (fun i hi => h i (by omega)), h n (by omega)]; rfl
theorem sumZ_e2 : ∀ (f g : Nat → Int) n, (∀ i, i < n → f i = g i) → sumZ f n = sumZ g n
  | _, _, 0, _ => rfl
  | f, g, n + 1, h => by
    show sumZ f n + f n = sumZ g n + g n
    rw [sumZ_e2 f g n (fun i hi => h i (by omega)), h n (by omega)]
/-- a column that is made of others -/
theorem Sp_sum {G : Nat → Int} {q n : Nat} {T : Nat → Int} {o : Nat} : ∀ {vs : List (Nat → Int)}, Sp vs G → (∀ v ∈ vs, v q = sumZ (fun m => v (o + m) * T m) n) → G q = sumZ (fun m => G (o + m) * T m) n
  | [], h, _ => by
    rw [h q, sumZ_c0 _ n (fun i _ => by rw [h (o + i)]; simp)]
  | v :: vs, ⟨a, G', hG, e⟩, hz => by
    have e2 : sumZ (fun m => G (o + m) * T m) n = sumZ (fun m => a * (v (o + m) * T m) + G' (o + m) * T m) n := sumZ_e2 _ _ n (fun i _ => by
      show G (o + i) * T i = a * (v (o + i) * T i) + G' (o + i) * T i
      rw [e, Int.add_mul, Int.mul_assoc])
    rw [e2, sumZ_lin, ← hz v List.mem_cons_self, ← Sp_sum hG (fun u hu => hz u (List.mem_cons_of_mem _ hu)), e]
