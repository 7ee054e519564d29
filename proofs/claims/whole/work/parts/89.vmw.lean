/-! words of a weight and a syndrome: by bits, and by masks (MacWilliams) -/
/-- rows of k bits (bit b's mark is pw (39 - b)) of weight w and syndrome s -/
def wm : Nat → Nat → Nat → Nat
  | 0, w, s => if w = 0 ∧ s = 0 then 1 else 0
  | k + 1, w, s => wm k w s + if w = 0 then 0 else wm k (w - 1) (s ^^^ pw (39 - k))
theorem wm_s0 (k s : Nat) : wm (k + 1) 0 s = wm k 0 s := by rw [wm, if_pos rfl, Nat.add_zero]
theorem wm_ss (k w s : Nat) : wm (k + 1) (w + 1) s = wm k (w + 1) s + wm k w (s ^^^ pw (39 - k)) := by rw [wm, if_neg (Nat.succ_ne_zero w), Nat.add_sub_cancel]
theorem wm_0 (k s : Nat) : wm k 0 s = if s = 0 then 1 else 0 := by
  induction k with
  | zero => rw [wm]; simp
  | succ k ih => rw [wm_s0, ih]
theorem wm_le : ∀ (k w s : Nat), wm k w s ≤ 2 ^ k := by
  intro k
  induction k with
  | zero => intro w s; rw [wm]; split <;> decide
  | succ k ih =>
    intro w s
    have h1 := ih w s
    have h2 := ih (w - 1) (s ^^^ pw (39 - k))
    rw [wm, Nat.pow_succ]
    split <;> omega
theorem wm_hi : ∀ (k w s : Nat), k < w → wm k w s = 0 := by
  intro k
  induction k with
  | zero => intro w s h; rw [wm, if_neg (by omega)]
  | succ k ih =>
    intro w s h
    rw [wm, if_neg (by omega), ih w s (by omega), ih (w - 1) _ (by omega)]
/-- one bit off -/
def ws (k w s : Nat) : Nat → Nat
  | 0 => 0
  | b + 1 => ws k w s b + wm k w (s ^^^ pw (39 - b))
theorem ws_step0 (k s : Nat) : ∀ b, ws (k + 1) 0 s b = ws k 0 s b := by
  intro b
  induction b with
  | zero => rfl
  | succ b ih => rw [ws, ws, ih, wm_s0]
theorem ws_step (k w s : Nat) : ∀ b, ws (k + 1) (w + 1) s b = ws k (w + 1) s b + ws k w (s ^^^ pw (39 - k)) b := by
  intro b
  induction b with
  | zero => rfl
  | succ b ih => rw [ws, ws, ws, ih, wm_ss, show s ^^^ pw (39 - b) ^^^ pw (39 - k) = s ^^^ pw (39 - k) ^^^ pw (39 - b) by rw [Nat.xor_assoc, Nat.xor_comm (pw (39 - b)), ← Nat.xor_assoc]]; omega
theorem xor_tw (s p : Nat) : s ^^^ p ^^^ p = s := by rw [Nat.xor_assoc, Nat.xor_self, Nat.xor_zero]
theorem ws_is : ∀ (k : Nat), (∀ s, ws k 0 s k = wm k 1 s) ∧ ∀ w s, ((ws k (w + 1) s k : Nat) : Int) = ((k : Int) - w) * (wm k w s : Nat) + ((w : Int) + 2) * (wm k (w + 2) s : Nat) := by
  intro k
  induction k with
  | zero =>
    refine ⟨fun s => ?_, fun w s => ?_⟩
    · rw [wm, if_neg (by omega)]; rfl
    · rw [wm_hi 0 (w + 2) s (by omega)]
      by_cases c : w = 0
      · subst c; simp [ws]
      · rw [wm_hi 0 w s (by omega)]; simp [ws]
  | succ k ih =>
    obtain ⟨i0, i1⟩ := ih
    refine ⟨fun s => ?_, fun w s => ?_⟩
    · rw [ws, ws_step0, i0, wm_s0, wm_ss k 0]
    · rw [ws, ws_step, wm_ss, wm_ss k (w + 1), xor_tw]
      have h1 := i1 w s
      cases w with
      | zero =>
        have h2 := i0 (s ^^^ pw (39 - k))
        rw [wm_s0]
        rw [h2]
        simp only [Int.natCast_add, Nat.zero_add] at *
        rw [h1]
        rw [show (1 + 1 : Nat) = 2 from rfl, show ((0 : Nat) : Int) = 0 from rfl]
        generalize ((wm k 1 (s ^^^ pw (39 - k)) : Nat) : Int) = A1
        generalize ((wm k 2 s : Nat) : Int) = A2
        generalize ((wm k 0 s : Nat) : Int) = A3
        simp only [Int.sub_mul, Int.add_mul, Int.mul_add]
        omega
      | succ w =>
        have h2 := i1 w (s ^^^ pw (39 - k))
        rw [wm_ss k w]
        simp only [Int.natCast_add] at *
        rw [h1, h2]
        rw [show w + 1 + 1 = w + 2 from rfl]
        generalize ((wm k (w + 2) (s ^^^ pw (39 - k)) : Nat) : Int) = A1
        generalize ((wm k (w + 1 + 2) s : Nat) : Int) = A2
        generalize ((wm k (w + 1) s : Nat) : Int) = A3
        generalize ((wm k w (s ^^^ pw (39 - k)) : Nat) : Int) = A4
        simp only [Int.sub_mul, Int.add_mul, Int.mul_add]
        omega
/-- masks: the sign -/
def pr : Nat → Nat → Nat → Bool
  | 0, _, _ => false
  | k + 1, x, s => xor (x.testBit k && s.testBit k) (pr k x s)
theorem pr_xor (x s t : Nat) : ∀ k, pr k x (s ^^^ t) = xor (pr k x s) (pr k x t) := by
  intro k
  induction k with
  | zero => rfl
  | succ k ih =>
    rw [pr, pr, pr, ih, Nat.testBit_xor]
    cases x.testBit k <;> cases s.testBit k <;> cases t.testBit k <;> cases pr k x s <;> cases pr k x t <;> rfl
def sg (b : Bool) (v : Int) : Int := if b then -v else v
def sm (f : Nat → Int) : Nat → Int
  | 0 => 0
  | n + 1 => sm f n + f n
theorem sm_cg {f g : Nat → Int} : ∀ n, (∀ x, x < n → f x = g x) → sm f n = sm g n := by
  intro n
  induction n with
  | zero => intro _; rfl
  | succ n ih => intro h; rw [sm, sm, ih (fun x hx => h x (by omega)), h n (by omega)]
theorem sm_add (f g : Nat → Int) (n : Nat) : sm (fun x => f x + g x) n = sm f n + sm g n := by
  induction n with
  | zero => rfl
  | succ n ih => rw [sm, sm, sm, ih]; omega
theorem sm_neg (f : Nat → Int) (n : Nat) : sm (fun x => -f x) n = - sm f n := by
  induction n with
  | zero => rfl
  | succ n ih => rw [sm, sm, ih]; omega
theorem sm_0 (n : Nat) : sm (fun _ => 0) n = 0 := by
  induction n with
  | zero => rfl
  | succ n ih => rw [sm, ih]; rfl
theorem sm_sp (f : Nat → Int) (a b : Nat) : sm f (a + b) = sm f a + sm (fun x => f (a + x)) b := by
  induction b with
  | zero => rw [Nat.add_zero, sm, Int.add_zero]
  | succ b ih => rw [← Nat.add_assoc, sm, sm, ih]; omega
theorem pr_hi (k x s : Nat) : ∀ j, j ≤ k → pr j (2 ^ k + x) s = pr j x s := by
  intro j
  induction j with
  | zero => intro _; rfl
  | succ j ih => intro h; rw [pr, pr, ih (by omega), Nat.testBit_two_pow_add_gt (by omega)]
theorem sm_or : ∀ (k s : Nat), sm (fun x => sg (pr k x s) 1) (2 ^ k) = if s % 2 ^ k = 0 then (2 ^ k : Nat) else 0 := by
  intro k
  induction k with
  | zero => intro s; rw [Nat.pow_zero, Nat.mod_one, if_pos rfl]; rfl
  | succ k ih =>
    intro s
    have e1 : sm (fun x => sg (pr (k + 1) x s) 1) (2 ^ k) = sm (fun x => sg (pr k x s) 1) (2 ^ k) := sm_cg _ fun x hx => by
      rw [pr, Nat.testBit_lt_two_pow hx, Bool.false_and, Bool.false_xor]
    have e2 : sm (fun x => sg (pr (k + 1) (2 ^ k + x) s) 1) (2 ^ k) = sm (fun x => sg (xor (s.testBit k) (pr k x s)) 1) (2 ^ k) := sm_cg _ fun x hx => by
      rw [pr, Nat.testBit_two_pow_add_eq, Nat.testBit_lt_two_pow hx, Bool.not_false, Bool.true_and, pr_hi k x s k (Nat.le_refl _)]
    have e3 : s % 2 ^ (k + 1) = s % 2 ^ k + 2 ^ k * (s / 2 ^ k % 2) := by rw [Nat.pow_succ, Nat.mod_mul]
    have e4 : s.testBit k = decide (s / 2 ^ k % 2 = 1) := Nat.testBit_eq_decide_div_mod_eq
    have hp : 0 < 2 ^ k := Nat.pow_pos (by decide)
    rw [show 2 ^ (k + 1) = 2 ^ k + 2 ^ k by rw [Nat.pow_succ]; omega] at *
    rw [sm_sp, e1, e2]
    rcases Nat.mod_two_eq_zero_or_one (s / 2 ^ k) with h | h
    · rw [h] at e3 e4
      rw [e4, show decide (0 = 1) = false from rfl]
      simp only [Bool.false_xor]
      rw [ih s, e3, Nat.mul_zero, Nat.add_zero]
      split <;> simp
    · rw [h] at e3 e4
      rw [e4, show decide (1 = 1) = true from rfl, if_neg (by rw [e3, Nat.mul_one]; omega)]
      have e5 : sm (fun x => sg (xor true (pr k x s)) 1) (2 ^ k) = sm (fun x => - sg (pr k x s) 1) (2 ^ k) := sm_cg _ fun x _ => by
        cases pr k x s <;> rfl
      rw [e5, sm_neg]
      omega
/-- rows of signs -/
def stp (b : Bool) (f : Nat → Int) (w : Nat) : Int := f w + sg b (if w = 0 then 0 else f (w - 1))
theorem stp_comm (f : Nat → Int) : stp true (stp false f) = stp false (stp true f) := by
  funext w
  rcases w with _ | _ | w
  · simp [stp, sg]
  · simp [stp, sg]; omega
  · simp [stp, sg]; omega
def dlt (w : Nat) : Int := if w = 0 then 1 else 0
def eX (x : Nat) : Nat → Nat → Int
  | 0 => dlt
  | k + 1 => stp (pr 8 x (pw (39 - k))) (eX x k)
def kR (v : Nat) : Nat → Nat → Int
  | 0 => dlt
  | i + 1 => stp (decide (i < v)) (kR v i)
theorem kR_s (v i : Nat) : kR v (i + 1) = stp (decide (i < v)) (kR v i) := rfl
theorem kR_eq {v v' : Nat} : ∀ i, i ≤ v → i ≤ v' → kR v i = kR v' i := by
  intro i
  induction i with
  | zero => intro _ _; rfl
  | succ i ih => intro h h'; rw [kR_s, kR_s, ih (by omega) (by omega), decide_eq_true (show i < v by omega), decide_eq_true (show i < v' by omega)]
theorem kR_in {m : Nat} : ∀ k, m ≤ k → stp true (kR m k) = kR (m + 1) (k + 1) := by
  intro k
  induction k with
  | zero => intro h; obtain rfl : m = 0 := by omega
            rfl
  | succ k ih =>
    intro h
    by_cases c : m = k + 1
    · subst c
      rw [kR_s (k + 1 + 1) (k + 1), decide_eq_true (show k + 1 < k + 1 + 1 by omega), kR_eq (v := k + 1) (v' := k + 1 + 1) (k + 1) (Nat.le_refl _) (by omega)]
    · rw [kR_s m k, decide_eq_false (show ¬ k < m by omega), stp_comm, ih (by omega), kR_s (m + 1) (k + 1), decide_eq_false (show ¬ k + 1 < m + 1 by omega)]
def wt (x : Nat) : Nat → Nat
  | 0 => 0
  | k + 1 => wt x k + if pr 8 x (pw (39 - k)) then 1 else 0
theorem wt_le (x k : Nat) : wt x k ≤ k := by
  induction k with
  | zero => exact Nat.le_refl _
  | succ k ih => rw [wt]; split <;> omega
theorem eX_is (x : Nat) : ∀ k, eX x k = kR (wt x k) k := by
  intro k
  induction k with
  | zero => rfl
  | succ k ih =>
    have := wt_le x k
    rw [eX, ih, wt]
    cases c : pr 8 x (pw (39 - k))
    · rw [if_neg (by decide), Nat.add_zero, kR_s, decide_eq_false (show ¬ k < wt x k by omega)]
    · rw [if_pos rfl]
      exact kR_in k this
theorem mw_is : ∀ (k w s : Nat), s < 256 → sm (fun x => sg (pr 8 x s) (eX x k w)) 256 = 256 * (wm k w s : Nat) := by
  intro k
  induction k with
  | zero =>
    intro w s hs
    by_cases c : w = 0
    · subst c
      have := sm_or 8 s
      rw [show 2 ^ 8 = 256 from rfl, Nat.mod_eq_of_lt hs] at this
      rw [show (fun x => sg (pr 8 x s) (eX x 0 0)) = fun x => sg (pr 8 x s) 1 from rfl, this, wm]
      by_cases c2 : s = 0
      · subst c2; rfl
      · rw [if_neg c2, if_neg (by omega)]; rfl
    · rw [show (fun x => sg (pr 8 x s) (eX x 0 w)) = fun x => 0 by funext x; rw [eX, dlt, if_neg c, sg]; split <;> rfl, sm_0, wm, if_neg (by omega)]
      rfl
  | succ k ih =>
    intro w s hs
    have hx : s ^^^ pw (39 - k) < 256 := xor_lt256 hs (pw_lt _)
    cases w with
    | zero =>
      rw [wm_s0, ← ih 0 s hs]
      congr 1
      funext x
      rw [eX, stp, if_pos rfl, sg, sg, sg]
      split <;> split <;> omega
    | succ w =>
      rw [wm_ss, Int.natCast_add, Int.mul_add, ← ih (w + 1) s hs, ← ih w _ hx, ← sm_add]
      congr 1
      funext x
      rw [eX, stp, if_neg (Nat.succ_ne_zero w), Nat.add_sub_cancel, pr_xor]
      cases pr 8 x s <;> cases pr 8 x (pw (39 - k)) <;> simp [sg] <;> omega
/-- the sum by weights -/
def ct (r v : Nat) : Nat := match r with
  | 0 => 0
  | r + 1 => ct r v + if wt r 40 = v then 1 else 0
theorem sm_one (g : Nat → Int) (u : Nat) : ∀ n, sm (fun v => ((if u = v then 1 else 0 : Nat) : Int) * g v) n = if u < n then g u else 0 := by
  intro n
  induction n with
  | zero => rfl
  | succ n ih =>
    rw [sm, ih]
    by_cases c : u = n
    · subst c
      rw [if_neg (Nat.lt_irrefl u), if_pos rfl, if_pos (by omega)]
      simp
    · rw [if_neg c]
      by_cases c2 : u < n
      · rw [if_pos c2, if_pos (by omega)]; simp
      · rw [if_neg c2, if_neg (by omega)]; simp
theorem sm_ct (g : Nat → Int) : ∀ r, sm (fun v => (ct r v : Nat) * g v) 41 = sm (fun x => g (wt x 40)) r := by
  intro r
  induction r with
  | zero =>
    rw [show (fun v => ((ct 0 v : Nat) : Int) * g v) = fun _ => 0 by funext v; rw [ct]; simp, sm_0]
    rfl
  | succ r ih =>
    rw [show sm (fun x => g (wt x 40)) (r + 1) = sm (fun x => g (wt x 40)) r + g (wt r 40) from rfl, ← ih, show (fun v => ((ct (r + 1) v : Nat) : Int) * g v) = fun v => (ct r v : Nat) * g v + ((if wt r 40 = v then 1 else 0 : Nat) : Int) * g v by funext v; rw [ct, Int.natCast_add, Int.add_mul], sm_add, sm_one, if_pos (by have := wt_le r 40; omega)]
theorem mw_0 (w : Nat) : sm (fun v => (ct 256 v : Nat) * kR v 40 w) 41 = 256 * (wm 40 w 0 : Nat) := by
  rw [sm_ct (fun v => kR v 40 w) 256, ← mw_is 40 w 0 (by decide)]
  exact sm_cg _ fun x _ => by
    rw [eX_is, show pr 8 x 0 = false by simp [pr]]
    rfl
