/-! PURE: menus, how they are counted -/
/-- count, in all, in any, least, most, lean count, lean ordinal, lean waste, waste at the asked one, messes at the asked one -/
abbrev AcT : Type := (Nat × Nat × Nat × Nat × Nat) × (Nat × Nat × Nat) × Nat × (Nat → Nat)
def anyN (S : St) (a : Nat) (x : Nat → Nat) : Nat → Nat
  | 0 => 0
  | k + 1 => anyN S a x k ||| (if 0 < x k then 2 ^ mq S a k else 0)
def totN (x : Nat → Nat) : Nat → Nat
  | 0 => 0
  | k + 1 => totN x k + x k
/-- what is left in sum, of the things of the pages -/
def wsN (S : St) (d a : Nat) (x : Nat → Nat) : Nat → Nat
  | 0 => 0
  | t + 1 => wsN S d a x t + (if (mG S a).testBit t then sN S 105 d t - usN S d a x t (mm S a) else 0)
def noteS (S : St) (d a : Nat) (tg : Int32) (x : Nat → Nat) (c : AcT) : AcT :=
  let any := anyN S a x (mm S a)
  let tot := totN x (mm S a)
  let w := wsN S d a x (nTh S)
  let n := c.1.1
  ((n + 1, if n = 0 then any else c.1.2.1 &&& any, c.1.2.2.1 ||| any, if n = 0 then tot else min c.1.2.2.2.1 tot, if n = 0 then tot else max c.1.2.2.2.2 tot),
   (if n = 0 ∨ w < c.2.1.2.2 then (1, n, w) else if w = c.2.1.2.2 then (c.2.1.1 + 1, c.2.1.2.1, c.2.1.2.2) else c.2.1),
   if nI n = tg then w else c.2.2.1, if nI n = tg then x else c.2.2.2)
def acc0 : AcT := ((0, 0, 0, 0, 0), (0, 0, 0), 0, fun _ => 0)
/-- all menus counted -/
def findS (S : St) (d a K : Nat) (tg : Int32) : AcT := skS (mcap S d a) (fun x c => if isMn S d a K x then noteS S d a tg x c else c) (mm S a) 0 (fun _ => 0) acc0
theorem any_lt {S : St} {a : Nat} {x : Nat → Nat} (h16 : nPg S ≤ 16) : ∀ {k : Nat}, k ≤ mm S a → anyN S a x k < 65536 := by
  intro k
  induction k with
  | zero => intro _; show 0 < 65536; omega
  | succ k ih =>
    intro hk
    have := ih (by omega)
    refine Nat.or_lt_two_pow (n := 16) this ?_
    split
    · exact Nat.pow_lt_pow_right (by decide) (by have := (mq_lt (S := S) (a := a) (i := k) (by omega)).1; omega)
    · decide
theorem tot_le {x : Nat → Nat} : ∀ {k : Nat}, (∀ i, i < k → x i ≤ 9) → totN x k ≤ 9 * k := by
  intro k
  induction k with
  | zero => intro _; exact Nat.zero_le _
  | succ k ih => intro h; show totN x k + x k ≤ _; have := ih (fun i hi => h i (by omega)); have := h k (by omega); omega
theorem ws_le {S : St} {d a : Nat} {x : Nat → Nat} (W : WF S) (hd : d < 10) : ∀ {t : Nat}, t ≤ 12 → wsN S d a x t ≤ 999 * t := by
  intro t
  induction t with
  | zero => intro _; exact Nat.zero_le _
  | succ t ih =>
    intro ht
    have := ih (by omega)
    have := W.dy.2.2 d t hd (by omega)
    show wsN S d a x t + _ ≤ _
    split <;> omega
