/-! ===== suspects: the class ===== -/
def pt (u d : Int) : Prop := u.tmod d = 0 ∧ 0 ≤ u.tdiv d ∧ u.tdiv d ≤ 9999
theorem tdiv_b {u d B : Int} (hd : 0 < d) (h : -B ≤ u ∧ u ≤ B) : -B ≤ u.tdiv d ∧ u.tdiv d ≤ B := by
  have h1 := Int.natAbs_tdiv_le_natAbs u d
  omega
theorem tmod_b {u d B : Int} (h : -B ≤ u ∧ u ≤ B) : -B ≤ u.tmod d ∧ u.tmod d ≤ B := by
  have h1 := Int.natAbs_tmod u d
  have h2 := Nat.mod_le u.natAbs d.natAbs
  omega
section
variable {nb db b : Nat} {by_ rs : RX} {c : Nat} {σ : SG} {mi mj : MI} {ml mk : ML} {x j : Int32}
theorem R_put_t {k : Nat} (hx : x = nI k) (hk : k < 31) {u d : Int} (hu : -4000000000 ≤ u ∧ u ≤ 4000000000) (hd : 0 < d ∧ d < 1000) {a e : Int64} (ea : a = zL u) (ee : e = zL d) (h : pt u d) : Ret m_su_put [vR 15 0 17, vI x, vL a, vL e] (some (vI (nI 1))) c (MRc nb db by_ rs) mi ml (u2 mi 18 k (zI (u.tdiv d))) ml := by
  have hq : a / e = zL (u.tdiv d) := by rw [ea, ee, zL_div ⟨by omega, by omega⟩ ⟨by omega, by omega⟩]
  have hr : rmL a e = zL (u.tmod d) := by rw [ea, ee, zL_rem ⟨by omega, by omega⟩ ⟨by omega, by omega⟩]
  have n0 : ¬ e = 0 := by rw [ee]; exact zL_nz ⟨by omega, by omega⟩ (by omega)
  refine g_su_put_0 ⟨fun g => absurd g (by rw [hx]; exact nI_pos (by omega)), fun _ => ⟨fun g => ?_, fun _ => ⟨fun g => ?_, fun _ => ⟨n0, fun _ => ⟨n0, fun g => ?_, fun _ => ⟨fun _ => ⟨ixn hx (by omega) (by decide), rfl, ?_, rfl⟩, fun g => ?_⟩⟩, fun g => ?_⟩⟩⟩⟩
  · rw [hx, nI_leN (by decide) (by omega)] at g; omega
  · rw [ee, lN_z, zL_le ⟨by omega, by omega⟩ (by decide)] at g; omega
  · rw [hq, lN_z, zL_lt ⟨by have := h.2; omega, by have := h.2; omega⟩ (by decide)] at g
    have := h.2.1; omega
  · rw [cln hx (by omega), hq, zL_i]
  · rw [hq, lN_z, zL_le ⟨by have := h.2; omega, by have := h.2; omega⟩ (by decide)] at g
    exact absurd h.2.2 g
  · rw [hr, h.1] at g; exact absurd rfl g
theorem R_put_f {k : Nat} (hx : x = nI k) (hk : k < 31) {u d : Int} (hu : -4000000000 ≤ u ∧ u ≤ 4000000000) (hd : 0 < d ∧ d < 1000) {a e : Int64} (ea : a = zL u) (ee : e = zL d) (h : ¬ pt u d) : Ret m_su_put [vR 15 0 17, vI x, vL a, vL e] (some (vI (nI 0))) c (MRc nb db by_ rs) mi ml mi ml := by
  have bq := tdiv_b hd.1 hu
  have br := tmod_b (d := d) hu
  have hq : a / e = zL (u.tdiv d) := by rw [ea, ee, zL_div ⟨by omega, by omega⟩ ⟨by omega, by omega⟩]
  have hr : rmL a e = zL (u.tmod d) := by rw [ea, ee, zL_rem ⟨by omega, by omega⟩ ⟨by omega, by omega⟩]
  have n0 : ¬ e = 0 := by rw [ee]; exact zL_nz ⟨by omega, by omega⟩ (by omega)
  refine g_su_put_0 ⟨fun _ => ⟨rfl, rfl, rfl⟩, fun _ => ⟨fun _ => ⟨rfl, rfl, rfl⟩, fun _ => ⟨fun _ => ⟨rfl, rfl, rfl⟩, fun _ => ⟨n0, fun g => ⟨n0, fun _ => ⟨rfl, rfl, rfl⟩, fun g2 => ⟨fun g3 => absurd ⟨?_, ?_, ?_⟩ h, fun _ => ⟨rfl, rfl, rfl⟩⟩⟩, fun _ => ⟨rfl, rfl, rfl⟩⟩⟩⟩⟩
  · rw [hr, lN_z, zL_eq ⟨by omega, by omega⟩ (by decide)] at g; exact g
  · rw [hq, lN_z, zL_lt ⟨by omega, by omega⟩ (by decide)] at g2; omega
  · rw [hq, lN_z, zL_le ⟨by omega, by omega⟩ (by decide)] at g3; exact g3
theorem put_loop {n : Nat} {G : Nat → MI → Int32 → MI → Prop} {p : Nat → Prop} {v : Nat → Int32} {F : MI → Prop} (h0 : ∀ m, F m → G n m (nI 1) m) (ht : ∀ k m r m', k < n → F m → p k → G (k + 1) (u2 m 18 k (v k)) r m' → G k m r m') (hf : ∀ k m, k < n → F m → ¬ p k → G k m (nI 0) m) (hF : ∀ m k x, F m → F (u2 m 18 k x)) :
    ∀ j, j ≤ n → ∀ m, F m → ∃ m', F m' ∧ (∀ k, k < j → m' 18 k = m 18 k) ∧ (((∀ k, j ≤ k → k < n → p k) ∧ G j m (nI 1) m' ∧ ∀ k, j ≤ k → k < n → m' 18 k = v k) ∨ ((∃ k, j ≤ k ∧ k < n ∧ ¬ p k) ∧ G j m (nI 0) m')) := by
  refine upto ?_ ?_
  · intro m hm
    exact ⟨m, hm, fun _ _ => rfl, Or.inl ⟨fun k h1 h2 => by omega, h0 m hm, fun k h1 h2 => by omega⟩⟩
  · intro j hj ih m hm
    by_cases hp : p j
    · obtain ⟨m', f1, f2, f3⟩ := ih (u2 m 18 j (v j)) (hF m j _ hm)
      refine ⟨m', f1, fun k hk => by rw [f2 k (by omega), u2_ne2 _ _ (Or.inr (by omega))], ?_⟩
      rcases f3 with ⟨g1, g2, g3⟩ | ⟨⟨k, k1, k2, k3⟩, g2⟩
      · refine Or.inl ⟨fun k h1 h2 => ?_, ht j m _ m' hj hm hp g2, fun k h1 h2 => ?_⟩
        · rcases Nat.lt_or_ge j k with z | z
          · exact g1 k (by omega) h2
          · rw [show k = j by omega]; exact hp
        · rcases Nat.lt_or_ge j k with z | z
          · exact g3 k (by omega) h2
          · rw [show k = j by omega, f2 j (by omega), u2_s]
      · exact Or.inr ⟨⟨k, by omega, k2, k3⟩, ht j m _ m' hj hm hp g2⟩
    · exact ⟨m, hm, fun _ _ => rfl, Or.inr ⟨⟨j, by omega, hj, hp⟩, hf j m hj hm hp⟩⟩
/-- the frame of a suspicion -/
def F18 (mi m : MI) : Prop := ∀ a, a ≠ 18 → m a = mi a
theorem F18.u {m : MI} (h : F18 mi m) (k : Nat) (v : Int32) : F18 mi (u2 m 18 k v) := fun a ha => by rw [u2_o _ _ ha, h a ha]
theorem F18.B {m : MI} (h : F18 mi m) (hbb : b = 43 ∨ b = 5) (hB : RCb σ b mi) : RCb σ b m := hB.fr hbb (fun q hq => h q (by omega))
/-- what a suspicion asks for -/
def SU (σ : SG) (b : Nat) (mi : MI) (ml : ML) : Prop := WF σ ∧ σ 0 0 = 1 ∧ RCb σ b mi ∧ (∀ k : Nat, (k : Int) < σ 0 5 → ml 16 k = zL (backZ σ k)) ∧ mi 11 2 = zI (σ 0 11) ∧ RCl σ mi ∧ ∀ i : Nat, (i : Int) < σ 0 11 → (0 ≤ σ 5 i ∧ σ 5 i < 2147483648) ∧ 0 ≤ σ 6 i ∧ σ 6 i ≤ 310968
theorem S_fine (hbb : b = 43 ∨ b = 5) (S : SU σ b mi ml) : ∃ m', F18 mi m' ∧ (((∀ k : Nat, (k : Int) < σ 0 5 → pt (backZ σ k) (σ 0 5 + 1)) ∧ Ret m_su_supposeFine [vR 15 0 17, vR 13 0 b, vR 14 0 11] (some (vI (nI 1))) c (MRc nb db by_ rs) mi ml m' ml ∧ ∀ k : Nat, (k : Int) < σ 0 5 → m' 18 k = zI (xB σ k)) ∨ ((¬ ∀ k : Nat, (k : Int) < σ 0 5 → pt (backZ σ k) (σ 0 5 + 1)) ∧ Ret m_su_supposeFine [vR 15 0 17, vR 13 0 b, vR 14 0 11] (some (vI (nI 0))) c (MRc nb db by_ rs) mi ml m' ml)) := by
  obtain ⟨hW, hr, hB, hbk, -⟩ := S
  obtain ⟨n, hn, h31⟩ := wf_n hW
  have nd := hW.nn
  obtain ⟨m', f1, -, f3⟩ := put_loop (n := n) (G := fun k m r m' => ∀ i, i = nI k → Go m_su_supposeFine 2 [some (vR 15 0 17), some (vR 13 0 b), some (vR 14 0 11), some (vI i)] [] (some (vI r)) c (MRc nb db by_ rs) m ml m' ml) (p := fun k => pt (backZ σ k) (σ 0 5 + 1)) (v := fun k => zI (xB σ k)) (F := F18 mi)
    (fun m hm i hi => g_su_supposeFine_2 hbb ⟨fun _ => ⟨rfl, rfl, rfl⟩, fun h => absurd (lp_d ((hm.B hbb hB).n hn) hi) h⟩)
    (fun k m r m' hk hm hp G i hi => g_su_supposeFine_2 hbb ⟨fun h => absurd h (lp_g ((hm.B hbb hB).n hn) hi hk (by omega)), fun _ => ⟨ixn hi (by omega) (by decide), _, _, _, R_put_t hi (by omega) (by have := back_bd hW k; omega) ⟨by omega, by omega⟩ (by rw [cln hi (by omega)]; exact hbk k (by omega)) ((hm.B hbb hB).nI1 hW) hp, fun _ => G _ (inc hi), fun g => absurd g n10⟩⟩)
    (fun k m hk hm hp i hi => g_su_supposeFine_2 hbb ⟨fun h => absurd h (lp_g ((hm.B hbb hB).n hn) hi hk (by omega)), fun _ => ⟨ixn hi (by omega) (by decide), _, _, _, R_put_f hi (by omega) (by have := back_bd hW k; omega) ⟨by omega, by omega⟩ (by rw [cln hi (by omega)]; exact hbk k (by omega)) ((hm.B hbb hB).nI1 hW) hp, fun g => absurd rfl g, fun _ => ⟨rfl, rfl, rfl⟩⟩⟩)
    (fun m k x h => h.u k x) 0 (by omega) mi (fun _ _ => rfl)
  refine ⟨m', f1, ?_⟩
  rcases f3 with ⟨g1, g2, g3⟩ | ⟨⟨k, k1, k2, k3⟩, g2⟩
  · exact Or.inl ⟨fun k hk => g1 k (by omega) (by omega), g_su_supposeFine_0 hbb (g2 _ rfl), fun k hk => g3 k (by omega) (by omega)⟩
  · exact Or.inr ⟨fun h => k3 (h k (by omega)), g_su_supposeFine_0 hbb (g2 _ rfl)⟩
def ptO (σ : SG) (j k : Nat) : Prop := if k = j then pt (backZ σ k) 2 else pt (backZ σ k - backZ σ j) (σ 0 5 + 1)
def xO (σ : SG) (j k : Nat) : Int := if k = j then (backZ σ k).tdiv 2 else (backZ σ k - backZ σ j).tdiv (σ 0 5 + 1)
theorem S_open (hbb : b = 43 ∨ b = 5) (S : SU σ b mi ml) {j : Nat} (hx : x = nI j) (hj : (j : Int) < σ 0 5) : ∃ m', F18 mi m' ∧ (((∀ k : Nat, (k : Int) < σ 0 5 → ptO σ j k) ∧ Ret m_su_supposeOpen [vR 15 0 17, vI x, vR 13 0 b, vR 14 0 11] (some (vI (nI 1))) c (MRc nb db by_ rs) mi ml m' ml ∧ ∀ k : Nat, (k : Int) < σ 0 5 → m' 18 k = zI (xO σ j k)) ∨ ((¬ ∀ k : Nat, (k : Int) < σ 0 5 → ptO σ j k) ∧ Ret m_su_supposeOpen [vR 15 0 17, vI x, vR 13 0 b, vR 14 0 11] (some (vI (nI 0))) c (MRc nb db by_ rs) mi ml m' ml)) := by
  obtain ⟨hW, hr, hB, hbk, -⟩ := S
  obtain ⟨n, hn, h31⟩ := wf_n hW
  have nd := hW.nn
  have hne : ∀ {k : Nat} {i : Int32}, k < n → i = nI k → (i = x ↔ k = j) := fun hk hi => by
    rw [hi, hx, nI_eq (by omega) (by omega)]
  obtain ⟨m', f1, -, f3⟩ := put_loop (n := n) (G := fun k m r m' => ∀ i a, i = nI k → a = zL (backZ σ j) → Go m_su_supposeOpen 11 [some (vR 15 0 17), some (vI x), some (vR 13 0 b), some (vR 14 0 11), some (vL a), none, some (vI i), none] [] (some (vI r)) c (MRc nb db by_ rs) m ml m' ml) (p := ptO σ j) (v := fun k => zI (xO σ j k)) (F := F18 mi)
    (fun m hm i a hi ha => g_su_supposeOpen_11 hbb ⟨fun _ => ⟨rfl, rfl, rfl⟩, fun h => absurd (lp_d ((hm.B hbb hB).n hn) hi) h⟩)
    (fun k m r m' hk hm hp G i a hi ha => by
      have b1 := back_bd hW k
      have b2 := back_bd hW j
      refine g_su_supposeOpen_11 hbb ⟨fun h => absurd h (lp_g ((hm.B hbb hB).n hn) hi hk (by omega)), fun _ => ⟨fun g => ?_, fun g => ?_⟩⟩
      · rw [hne hk hi] at g
        unfold ptO at hp
        rw [if_neg g] at hp
        have G := G (i + nI 1) a (inc hi) ha
        rw [show xO σ j k = _ from if_neg g] at G
        exact ⟨ixn hi (by omega) (by decide), _, _, _, R_put_t hi (by omega) ⟨by omega, by omega⟩ ⟨by omega, by omega⟩ (by rw [cln hi (by omega), hbk k (by omega), ha, zL_sub]) ((hm.B hbb hB).nI1 hW) hp, fun _ => G, fun g => absurd g n10⟩
      · rw [hne hk hi] at g
        subst g
        unfold ptO at hp
        rw [if_pos rfl] at hp
        have G := G (i + nI 1) a (inc hi) ha
        rw [show xO σ k k = _ from if_pos rfl] at G
        exact ⟨_, _, _, R_put_t hi (by omega) ⟨by omega, by omega⟩ ⟨by decide, by decide⟩ ha rfl hp, fun _ => G, fun g => absurd g n10⟩)
    (fun k m hk hm hp i a hi ha => by
      have b1 := back_bd hW k
      have b2 := back_bd hW j
      refine g_su_supposeOpen_11 hbb ⟨fun h => absurd h (lp_g ((hm.B hbb hB).n hn) hi hk (by omega)), fun _ => ⟨fun g => ?_, fun g => ?_⟩⟩
      · rw [hne hk hi] at g
        unfold ptO at hp
        rw [if_neg g] at hp
        exact ⟨ixn hi (by omega) (by decide), _, _, _, R_put_f hi (by omega) ⟨by omega, by omega⟩ ⟨by omega, by omega⟩ (by rw [cln hi (by omega), hbk k (by omega), ha, zL_sub]) ((hm.B hbb hB).nI1 hW) hp, fun g => absurd rfl g, fun _ => ⟨rfl, rfl, rfl⟩⟩
      · rw [hne hk hi] at g
        subst g
        unfold ptO at hp
        rw [if_pos rfl] at hp
        exact ⟨_, _, _, R_put_f hi (by omega) ⟨by omega, by omega⟩ ⟨by decide, by decide⟩ ha rfl hp, fun g => absurd rfl g, fun _ => ⟨rfl, rfl, rfl⟩⟩)
    (fun m k x h => h.u k x) 0 (by omega) mi (fun _ _ => rfl)
  refine ⟨m', f1, ?_⟩
  have ej : ml 16 x.toNatClampNeg = zL (backZ σ j) := by rw [cln hx (by omega)]; exact hbk j hj
  rcases f3 with ⟨g1, g2, g3⟩ | ⟨⟨k, k1, k2, k3⟩, g2⟩
  · exact Or.inl ⟨fun k hk => g1 k (by omega) (by omega), g_su_supposeOpen_0 hbb ⟨ixn hx (by omega) (by decide), g2 _ _ rfl ej⟩, fun k hk => g3 k (by omega) (by omega)⟩
  · exact Or.inr ⟨fun h => k3 (h k (by omega)), g_su_supposeOpen_0 hbb ⟨ixn hx (by omega) (by decide), g2 _ _ rfl ej⟩⟩
end
