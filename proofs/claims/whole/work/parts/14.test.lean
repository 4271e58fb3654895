/-! ===== a try: Bench.monitor ===== -/
def inlT (y : Nat) : Bool := [m_bn_has, m_bn_order, m_bn_half].elem y
/-- the sum of the first n -/
def sumI (f : Nat → Int32) : Nat → Int32
  | 0 => 0
  | n + 1 => sumI f n + f n
theorem t_monitor_loop {b n : Nat} {k s : Nat} {Q : Option AV → HP} {c : Nat} {mr : MR} {mi : MI} {ml : ML} (hn : n ≤ 31) (hc : mi b 0 = nI n) (hl : mr b 9 = some (0, 31, b + 2)) (hQ : Q (some (vI (sumI (mi (b + 2)) n))) c mr mi ml) :
    ∀ d j : Nat, j + d = n → At m_bn_monitor 4 [some (vR 13 0 b), some (vI (sumI (mi (b + 2)) j)), some (vI (nI j))] [] k s Q c mr mi ml := by
  intro d
  induction d with
  | zero =>
    intro j hj
    refine at_wq inlT 200 rfl ?_
    refine ⟨fun h => ?_, fun h => ?_⟩
    · have e : j = n := by omega
      subst e
      exact hQ
    · sorry
  | succ d ih =>
    intro j hj
    refine at_wq inlT 200 rfl ?_
    refine ⟨fun h => ?_, fun h => ?_⟩
    · sorry
    · trace_state
      sorry
theorem t_monitor {b n : Nat} {Q : Option AV → HP} {c : Nat} {mr : MR} {mi : MI} {ml : ML} (hn : n ≤ 31) (hc : mi b 0 = nI n) (hl : mr b 9 = some (0, 31, b + 2)) (hQ : Q (some (vI (sumI (mi (b + 2)) n))) c mr mi ml) : Ok m_bn_monitor 0 0 [vR 13 0 b] Q c mr mi ml := by
  refine ok_wq inlT 200 rfl rfl ?_
  exact t_monitor_loop hn hc hl hQ n 0 (by omega)
