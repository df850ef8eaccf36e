/-! PURE: menus, as folds -/
def upX (x : Nat → Nat) (k v : Nat) : Nat → Nat := fun i => if i = k then v else x i
/-- all vectors from place k on, in their order -/
def skS {A : Type} (cap : Nat → Nat) (leaf : (Nat → Nat) → A → A) : Nat → Nat → (Nat → Nat) → A → A
  | 0, _, x, a => leaf x a
  | m + 1, k, x, a => fo (fun v a => skS cap leaf m (k + 1) (upX x k v) a) 0 (cap k + 1) a
/-- x' is x up to k, and within the caps from there -/
def cmp (cap : Nat → Nat) (k n : Nat) (x x' : Nat → Nat) : Prop := (∀ i, i < k → x' i = x i) ∧ ∀ i, k ≤ i → i < n → x' i ≤ cap i
theorem cmp_up {cap : Nat → Nat} {k n v : Nat} {x x' : Nat → Nat} (hv : v ≤ cap k) (h : cmp cap (k + 1) n (upX x k v) x') : cmp cap k n x x' ∧ x' k = v := by
  have hk : x' k = v := by rw [h.1 k (by omega)]; unfold upX; rw [if_pos rfl]
  refine ⟨⟨fun i hi => ?_, fun i hi hn => ?_⟩, hk⟩
  · rw [h.1 i (by omega)]; unfold upX; rw [if_neg (by omega)]
  · by_cases e : i = k
    · subst e; rw [hk]; exact hv
    · exact h.2 i (by omega) hn
/-- where no vector counts, nothing is done -/
theorem sk_id {A : Type} {cap : Nat → Nat} {leaf : (Nat → Nat) → A → A} : ∀ {m k : Nat} {x : Nat → Nat}, (∀ x', cmp cap k (k + m) x x' → ∀ a, leaf x' a = a) → ∀ a, skS cap leaf m k x a = a := by
  intro m
  induction m with
  | zero => intro k x h a; exact h x ⟨fun _ _ => rfl, fun i h1 h2 => absurd h2 (by omega)⟩ a
  | succ m ih =>
    intro k x h a
    show fo _ 0 (cap k + 1) a = a
    refine fo_inv (fun _ b => b = a) rfl fun v b _ hv hb => ?_
    subst hb
    exact ih (fun x' hx' => h x' (by have := (cmp_up (by omega) hx').1; rw [show k + (m + 1) = k + 1 + m by omega]; exact this)) b
