/-! ===== determinants by rows, over lists of columns ===== -/
def lap (v : Nat → Int) : List Nat → (List Nat → Int) → Int
  | [], _ => 0
  | p :: r, f => v p * f r - lap v r (fun l => f (p :: l))
def dt : List (Nat → Int) → List Nat → Int
  | [], [] => 1
  | [], _ :: _ => 0
  | v :: vs, ps => lap v ps (dt vs)
theorem lap_lin (v : Nat → Int) (a b : Int) : ∀ (r : List Nat) (f g : List Nat → Int), lap v r (fun l => a * f l + b * g l) = a * lap v r f + b * lap v r g
  | [], f, g => by simp [lap]
  | p :: r, f, g => by
    simp only [lap]
    rw [lap_lin v a b r (fun l => f (p :: l)) (fun l => g (p :: l))]
    simp only [Int.mul_add, Int.mul_sub, Int.mul_left_comm (v p)]
    omega
theorem lap_neg (v : Nat → Int) (r : List Nat) (f : List Nat → Int) : lap v r (fun l => - f l) = - lap v r f := by
  have h := lap_lin v (-1) 0 r f f
  simp only [Int.zero_mul, Int.add_zero, Int.neg_mul, Int.one_mul] at h
  exact h
theorem lap_vlin (v w : Nat → Int) (a b : Int) : ∀ (r : List Nat) (f : List Nat → Int), lap (fun q => a * v q + b * w q) r f = a * lap v r f + b * lap w r f
  | [], f => by simp [lap]
  | p :: r, f => by
    simp only [lap]
    rw [lap_vlin v w a b r (fun l => f (p :: l))]
    simp only [Int.mul_sub, Int.add_mul, Int.mul_assoc]
    omega
def AS (f : List Nat → Int) : Prop := ∀ l1 a b l2, f (l1 ++ a :: b :: l2) = - f (l1 ++ b :: a :: l2)
theorem AS_cons {f : List Nat → Int} (h : AS f) (p : Nat) : AS (fun l => f (p :: l)) := fun l1 a b l2 => h (p :: l1) a b l2
theorem AS_lap (v : Nat → Int) : ∀ (l1 : List Nat) (f : List Nat → Int), AS f → ∀ a b l2, lap v (l1 ++ a :: b :: l2) f = - lap v (l1 ++ b :: a :: l2) f
  | [], f, h, a, b, l2 => by
    show v a * f (b :: l2) - (v b * f (a :: l2) - lap v l2 (fun l => f (a :: b :: l))) = -(v b * f (a :: l2) - (v a * f (b :: l2) - lap v l2 (fun l => f (b :: a :: l))))
    have e : (fun l => f (a :: b :: l)) = fun l => - f (b :: a :: l) := funext fun l => h [] a b l
    rw [e, lap_neg]
    omega
  | p :: l1, f, h, a, b, l2 => by
    show v p * f (l1 ++ a :: b :: l2) - lap v (l1 ++ a :: b :: l2) (fun l => f (p :: l)) = -(v p * f (l1 ++ b :: a :: l2) - lap v (l1 ++ b :: a :: l2) (fun l => f (p :: l)))
    rw [AS_lap v l1 _ (AS_cons h p) a b l2, h l1 a b l2, Int.mul_neg]
    omega
theorem AS_dt : ∀ vs : List (Nat → Int), AS (dt vs)
  | [] => fun l1 a b l2 => by cases l1 <;> rfl
  | v :: vs => fun l1 a b l2 => AS_lap v l1 (dt vs) (AS_dt vs) a b l2
theorem AS_zero {f : List Nat → Int} (h : AS f) (c : Nat) (l3 : List Nat) : ∀ (l2 l1 : List Nat), f (l1 ++ c :: (l2 ++ c :: l3)) = 0
  | [], l1 => by
    have := h l1 c c l3
    show f (l1 ++ c :: c :: l3) = 0
    omega
  | x :: l2, l1 => by
    show f (l1 ++ c :: x :: (l2 ++ c :: l3)) = 0
    rw [h l1 c x (l2 ++ c :: l3)]
    have := AS_zero h c l3 l2 (l1 ++ [x])
    rw [List.append_assoc] at this
    show -(f (l1 ++ x :: c :: (l2 ++ c :: l3))) = 0
    have e : f (l1 ++ x :: c :: (l2 ++ c :: l3)) = 0 := this
    rw [e]; rfl
theorem AS_head {f : List Nat → Int} (h : AS f) {c : Nat} {l : List Nat} (hc : c ∈ l) : f (c :: l) = 0 := by
  obtain ⟨l2, l3, rfl⟩ := List.append_of_mem hc
  exact AS_zero h c l3 l2 []
theorem AS_mid {f : List Nat → Int} (h : AS f) {c : Nat} {l1 l2 : List Nat} (hc : c ∈ l1 ∨ c ∈ l2) : f (l1 ++ c :: l2) = 0 := by
  rcases hc with hc | hc
  · obtain ⟨m1, m2, rfl⟩ := List.append_of_mem hc
    rw [List.append_assoc]
    exact AS_zero h c l2 m2 m1
  · obtain ⟨m1, m2, rfl⟩ := List.append_of_mem hc
    exact AS_zero h c m2 m1 l1
/-- a sum of multiples of rows -/
def Sp : List (Nat → Int) → (Nat → Int) → Prop
  | [], G => ∀ c, G c = 0
  | v :: vs, G => ∃ (a : Int) (G' : Nat → Int), Sp vs G' ∧ ∀ c, G c = a * v c + G' c
theorem Sp_zero : ∀ vs : List (Nat → Int), Sp vs (fun _ => 0)
  | [] => fun _ => rfl
  | v :: vs => ⟨0, _, Sp_zero vs, fun c => by simp⟩
theorem Sp_lin (a b : Int) : ∀ (vs : List (Nat → Int)) {G K : Nat → Int}, Sp vs G → Sp vs K → Sp vs (fun c => a * G c + b * K c)
  | [], G, K, h, k => fun c => by
      show a * G c + b * K c = 0
      rw [h c, k c]; simp
  | v :: vs, G, K, ⟨x, G', hG, eG⟩, ⟨y, K', hK, eK⟩ => ⟨a * x + b * y, _, Sp_lin a b vs hG hK, fun c => by
      show a * G c + b * K c = (a * x + b * y) * v c + (a * G' c + b * K' c)
      rw [eG, eK]
      simp only [Int.mul_add, Int.add_mul, Int.mul_assoc]
      omega⟩
theorem Sp_up {vs : List (Nat → Int)} {G : Nat → Int} (v : Nat → Int) (h : Sp vs G) : Sp (v :: vs) G := ⟨0, G, h, fun c => by simp⟩
theorem Sp_self (v : Nat → Int) (vs : List (Nat → Int)) : Sp (v :: vs) v := ⟨1, _, Sp_zero vs, fun c => by simp⟩
theorem Sp_lap (v : Nat → Int) (vs : List (Nat → Int)) : ∀ (r : List Nat) (f : Nat → List Nat → Int), (∀ l, Sp vs (fun c => f c l)) → Sp vs (fun c => lap v r (f c))
  | [], f, h => Sp_zero vs
  | p :: r, f, h => by
    have h2 := Sp_lin (v p) (-1) vs (h r) (Sp_lap v vs r (fun c l => f c (p :: l)) (fun l => h (p :: l)))
    have e : (fun c => lap v (p :: r) (f c)) = fun c => v p * f c r + -1 * lap v r (fun l => f c (p :: l)) := funext fun c => by simp only [lap]; omega
    rw [e]; exact h2
theorem Sp_lap2 (v : Nat → Int) (vs : List (Nat → Int)) (l2 : List Nat) : ∀ (l1 : List Nat) (f : List Nat → Int), (∀ m1 m2, Sp vs (fun c => f (m1 ++ c :: m2))) → Sp (v :: vs) (fun c => lap v (l1 ++ c :: l2) f)
  | [], f, h => by
    have h2 := Sp_lin (f l2) (-1) (v :: vs) (Sp_self v vs) (Sp_up v (Sp_lap v vs l2 (fun c l => f (c :: l)) (fun l => h [] l)))
    have e : (fun c => lap v ([] ++ c :: l2) f) = fun c => f l2 * v c + -1 * lap v l2 (fun l => f (c :: l)) := funext fun c => by
      show v c * f l2 - lap v l2 (fun l => f (c :: l)) = _
      rw [Int.mul_comm]; omega
    rw [e]; exact h2
  | p :: l1, f, h => by
    have h2 := Sp_lin (v p) (-1) (v :: vs) (Sp_up v (h l1 l2)) (Sp_lap2 v vs l2 l1 (fun l => f (p :: l)) (fun m1 m2 => h (p :: m1) m2))
    have e : (fun c => lap v (p :: l1 ++ c :: l2) f) = fun c => v p * f (l1 ++ c :: l2) + -1 * lap v (l1 ++ c :: l2) (fun l => f (p :: l)) := funext fun c => by
      show v p * f (l1 ++ c :: l2) - lap v (l1 ++ c :: l2) (fun l => f (p :: l)) = _
      omega
    rw [e]; exact h2
theorem Sp_dt : ∀ (vs : List (Nat → Int)) (l1 l2 : List Nat), Sp vs (fun c => dt vs (l1 ++ c :: l2))
  | [], l1, l2 => fun c => by cases l1 <;> rfl
  | v :: vs, l1, l2 => Sp_lap2 v vs l2 l1 (dt vs) (fun m1 m2 => Sp_dt vs m1 m2)
/-- rows with their pivots, the latest first -/
def Piv : List (Nat → Int) → List Nat → Prop
  | [], [] => True
  | v :: vs, p :: ps => Piv vs ps ∧ dt (v :: vs) (p :: ps) ≠ 0
  | _, _ => False
theorem Piv_ne : ∀ {vs : List (Nat → Int)} {ps : List Nat}, Piv vs ps → dt vs ps ≠ 0
  | [], [], _ => by decide
  | v :: vs, p :: ps, h => h.2
theorem Piv_uniq : ∀ {vs : List (Nat → Int)} {ps : List Nat} {G : Nat → Int}, Piv vs ps → Sp vs G → (∀ q ∈ ps, G q = 0) → ∀ c, G c = 0
  | [], [], G, _, h, _ => h
  | v :: vs, p :: ps, G, hp, ⟨a, G', hG, eG⟩, hz => by
    have hS : dt vs ps ≠ 0 := Piv_ne hp.1
    have eV : ∀ c, dt (v :: vs) (c :: ps) = v c * dt vs ps - lap v ps (fun l => dt vs (c :: l)) := fun c => rfl
    have hW : Sp vs (fun c => lap v ps (fun l => dt vs (c :: l))) := Sp_lap v vs ps (fun c l => dt vs (c :: l)) (fun l => Sp_dt vs [] l)
    have hE := Piv_uniq hp.1 (Sp_lin (dt vs ps) a vs hG hW) (fun q hq => by
      have h1 := eV q
      rw [AS_head (AS_dt (v :: vs)) hq] at h1
      have h2 := hz q (List.mem_cons_of_mem _ hq)
      rw [eG] at h2
      have e3 : G' q = -(a * v q) := by omega
      have e4 : lap v ps (fun l => dt vs (q :: l)) = v q * dt vs ps := by omega
      show dt vs ps * G' q + a * lap v ps (fun l => dt vs (q :: l)) = 0
      rw [e3, e4, Int.mul_neg, Int.mul_comm (dt vs ps), Int.mul_assoc]
      omega)
    have ha : a = 0 := by
      have h1 := hE p
      have h2 := hz p List.mem_cons_self
      rw [eG] at h2
      have h3 := eV p
      have e3 : G' p = -(a * v p) := by omega
      have e4 : lap v ps (fun l => dt vs (p :: l)) = v p * dt vs ps - dt (v :: vs) (p :: ps) := by omega
      have h1 : dt vs ps * G' p + a * lap v ps (fun l => dt vs (p :: l)) = 0 := h1
      rw [e3, e4, Int.mul_neg, Int.mul_sub, Int.mul_comm (dt vs ps), Int.mul_assoc] at h1
      have h5 : a * dt (v :: vs) (p :: ps) = 0 := by omega
      rcases Int.mul_eq_zero.mp h5 with h | h
      · exact h
      · exact absurd h hp.2
    intro c
    have h1 : dt vs ps * G' c + a * lap v ps (fun l => dt vs (c :: l)) = 0 := hE c
    rw [ha] at h1
    rw [eG, ha]
    have h2 : dt vs ps * G' c = 0 := by omega
    rcases Int.mul_eq_zero.mp h2 with h | h
    · exact absurd h hS
    · omega
/-- what comes out of a row ahead when a new pivot is taken out of it -/
theorem dt_syl {v : Nat → Int} {vs : List (Nat → Int)} {p q : Nat} {l1 l2 : List Nat} (h : Piv (v :: vs) (p :: (l1 ++ q :: l2))) (c : Nat) :
    dt vs (l1 ++ q :: l2) * dt (v :: vs) (p :: (l1 ++ c :: l2)) = dt (v :: vs) (p :: (l1 ++ q :: l2)) * dt vs (l1 ++ c :: l2) - dt vs (l1 ++ p :: l2) * dt (v :: vs) (c :: (l1 ++ q :: l2)) := by
  have a1 := AS_dt (v :: vs)
  have a0 := AS_dt vs
  have h1 : Sp (v :: vs) (fun c => dt (v :: vs) (p :: (l1 ++ c :: l2))) := Sp_dt (v :: vs) (p :: l1) l2
  have h2 : Sp (v :: vs) (fun c => dt vs (l1 ++ c :: l2)) := Sp_up v (Sp_dt vs l1 l2)
  have h3 : Sp (v :: vs) (fun c => dt (v :: vs) (c :: (l1 ++ q :: l2))) := Sp_dt (v :: vs) [] (l1 ++ q :: l2)
  have h4 := Sp_lin 1 1 _ (Sp_lin (dt vs (l1 ++ q :: l2)) (-(dt (v :: vs) (p :: (l1 ++ q :: l2)))) _ h1 h2) (Sp_lin (dt vs (l1 ++ p :: l2)) 0 _ h3 h3)
  have h5 := Piv_uniq h h4 (fun x hx => by
    show 1 * (dt vs (l1 ++ q :: l2) * dt (v :: vs) (p :: (l1 ++ x :: l2)) + -(dt (v :: vs) (p :: (l1 ++ q :: l2))) * dt vs (l1 ++ x :: l2)) + 1 * (dt vs (l1 ++ p :: l2) * dt (v :: vs) (x :: (l1 ++ q :: l2)) + 0 * dt (v :: vs) (x :: (l1 ++ q :: l2))) = 0
    rw [Int.zero_mul, Int.neg_mul]
    rcases List.mem_cons.mp hx with rfl | hx
    · have e1 : dt (v :: vs) (x :: (l1 ++ x :: l2)) = 0 := AS_zero a1 x l2 l1 []
      rw [e1, Int.mul_comm (dt vs (l1 ++ x :: l2))]
      omega
    · have e3 : dt (v :: vs) (x :: (l1 ++ q :: l2)) = 0 := AS_head a1 hx
      rw [e3]
      by_cases hxq : x = q
      · subst hxq
        rw [Int.mul_comm (dt vs (l1 ++ x :: l2))]
        omega
      · have hm : x ∈ l1 ∨ x ∈ l2 := by
          rcases List.mem_append.mp hx with h | h
          · exact Or.inl h
          · rcases List.mem_cons.mp h with h | h
            · exact absurd h hxq
            · exact Or.inr h
        have e1 : dt (v :: vs) ((p :: l1) ++ x :: l2) = 0 := AS_mid a1 (hm.imp (List.mem_cons_of_mem _) id)
        have e1 : dt (v :: vs) (p :: (l1 ++ x :: l2)) = 0 := e1
        rw [e1, AS_mid a0 hm]
        omega) c
  have h5 : 1 * (dt vs (l1 ++ q :: l2) * dt (v :: vs) (p :: (l1 ++ c :: l2)) + -(dt (v :: vs) (p :: (l1 ++ q :: l2))) * dt vs (l1 ++ c :: l2)) + 1 * (dt vs (l1 ++ p :: l2) * dt (v :: vs) (c :: (l1 ++ q :: l2)) + 0 * dt (v :: vs) (c :: (l1 ++ q :: l2))) = 0 := h5
  rw [Int.zero_mul, Int.neg_mul] at h5
  omega
-- bounds
theorem lap_bd {b : Nat} : ∀ (r : List Nat) (u : Nat → Int) (g : List Nat → Int), (∀ q, (u q).natAbs ≤ 1) → (∀ l, l.length + 1 = r.length → (g l).natAbs ≤ b) → (lap u r g).natAbs ≤ r.length * b
  | [], u, g, hu, hg => by simp [lap]
  | p :: r, u, g, hu, hg => by
    have h1 := lap_bd r u (fun l => g (p :: l)) hu (fun l hl => hg (p :: l) (by simp; omega))
    have h2 := hg r rfl
    have h3 := hu p
    show (u p * g r - lap u r (fun l => g (p :: l))).natAbs ≤ (r.length + 1) * b
    have h4 : (u p * g r).natAbs ≤ b := by
      rw [Int.natAbs_mul]
      calc (u p).natAbs * (g r).natAbs ≤ 1 * b := Nat.mul_le_mul h3 h2
        _ = b := Nat.one_mul b
    rw [Nat.add_mul, Nat.one_mul]
    omega
theorem lap2_bd {b : Nat} {v w : Nat → Int} (hv : ∀ q, v q = 0 ∨ v q = 1) (hw : ∀ q, w q = 0 ∨ w q = 1) : ∀ (r : List Nat) (g : List Nat → Int), (∀ l, l.length + 2 = r.length → (g l).natAbs ≤ b) → (lap v r (fun l => lap w l g)).natAbs ≤ r.length * (r.length - 1) / 2 * b
  | [], g, hg => by simp [lap]
  | p :: r, g, hg => by
    have h1 := lap2_bd hv hw r (fun l => g (p :: l)) (fun l hl => hg (p :: l) (by simp; omega))
    have h2 := lap_bd (b := b) r (fun q => v p * w q + -(w p) * v q) g (fun q => by
      rcases hv p with e1 | e1 <;> rcases hv q with e2 | e2 <;> rcases hw p with e3 | e3 <;> rcases hw q with e4 | e4 <;> rw [e1, e2, e3, e4] <;> decide) (fun l hl => hg l (by simp; omega))
    rw [lap_vlin, Int.neg_mul] at h2
    have e : lap v (p :: r) (fun l => lap w l g) = (v p * lap w r g + -(w p * lap v r g)) + lap v r (fun l => lap w l (fun l' => g (p :: l'))) := by
      show v p * lap w r g - lap v r (fun l => w p * g l - lap w l (fun l' => g (p :: l'))) = _
      have e2 : (fun l => w p * g l - lap w l (fun l' => g (p :: l'))) = fun l => w p * g l + (-1) * lap w l (fun l' => g (p :: l')) := funext fun l => by omega
      rw [e2, lap_lin]
      omega
    rw [e]
    have h3 : (r.length + 1) * (r.length + 1 - 1) / 2 * b = r.length * b + r.length * (r.length - 1) / 2 * b := by
      rw [← Nat.add_mul]
      congr 1
      rw [Nat.add_sub_cancel]
      cases hr : r.length with
      | zero => rfl
      | succ n =>
        rw [Nat.add_sub_cancel]
        have e3 : (n + 1 + 1) * (n + 1) = (n + 1) * n + (n + 1) * 2 := by rw [← Nat.mul_add, Nat.mul_comm]
        rw [e3, Nat.add_mul_div_right _ _ (by decide)]
        omega
    show _ ≤ (r.length + 1) * (r.length + 1 - 1) / 2 * b
    rw [h3]
    omega
def bb : Nat → Nat
  | 0 => 1
  | 1 => 1
  | n + 2 => (n + 2) * (n + 1) / 2 * bb n
theorem dt_bd : ∀ (vs : List (Nat → Int)) (ps : List Nat), (∀ v ∈ vs, ∀ q, v q = 0 ∨ v q = 1) → ps.length = vs.length → (dt vs ps).natAbs ≤ bb vs.length
  | [], [], _, _ => by decide
  | [v], [p], h, _ => by
    show (v p * 1 - 0).natAbs ≤ 1
    rcases h v List.mem_cons_self p with e | e <;> rw [e] <;> decide
  | v :: w :: vs, ps, h, hl => by
    have h1 := lap2_bd (b := bb vs.length) (h v List.mem_cons_self) (h w (List.mem_cons_of_mem _ List.mem_cons_self)) ps (dt vs) (fun l hl' => dt_bd vs l (fun u hu => h u (List.mem_cons_of_mem _ (List.mem_cons_of_mem _ hu))) (by simp at hl; omega))
    rw [hl] at h1
    exact h1
theorem bb_mono : ∀ n, n ≤ 12 → bb n ≤ 7484400 := by decide
-- the new row
def sumZ (f : Nat → Int) : Nat → Int
  | 0 => 0
  | n + 1 => sumZ f n + f n
theorem sumZ_head (f : Nat → Int) : ∀ n, sumZ f (n + 1) = f 0 + sumZ (fun i => f (i + 1)) n
  | 0 => by simp [sumZ]
  | n + 1 => by
    show sumZ f (n + 1) + f (n + 1) = f 0 + (sumZ (fun i => f (i + 1)) n + f (n + 1))
    rw [sumZ_head f n]; omega
theorem lap_move {c : Nat} (v : Nat → Int) : ∀ (ps : List Nat) (f : List Nat → Int), AS f → lap v ps (fun l => f (c :: l)) = sumZ (fun h => v (ps.getD h 0) * f (ps.set h c)) ps.length
  | [], f, h => rfl
  | p :: r, f, h => by
    show v p * f (c :: r) - lap v r (fun l => f (c :: p :: l)) = _
    rw [List.length_cons, sumZ_head]
    have e : (fun l => f (c :: p :: l)) = fun l => -(f (p :: c :: l)) := funext fun l => h [] c p l
    rw [e, lap_neg, lap_move v r (fun l => f (p :: l)) (AS_cons h p)]
    show _ = v p * f (c :: r) + sumZ (fun i => v (r.getD i 0) * f (p :: r.set i c)) r.length
    omega
theorem dt_new (v : Nat → Int) (vs : List (Nat → Int)) (ps : List Nat) (c : Nat) : dt (v :: vs) (c :: ps) = v c * dt vs ps - sumZ (fun h => v (ps.getD h 0) * dt vs (ps.set h c)) ps.length := by
  show v c * dt vs ps - lap v ps (fun l => dt vs (c :: l)) = _
  rw [lap_move v ps (dt vs) (AS_dt vs)]
