/-! ===== trees: shapes over ids (the library's two-armed tree with nothing at its leaves) ===== -/
abbrev Tr : Type := Lean.RArray Unit
def ino : Tr → List Nat
  | .leaf _ => []
  | .branch n l r => ino l ++ n :: ino r
def rootOf : Tr → Int32
  | .leaf _ => -1
  | .branch n _ _ => nI n
def tsz : Tr → Nat
  | .leaf _ => 0
  | .branch _ l r => tsz l + tsz r + 1
def tht : Tr → Nat
  | .leaf _ => 0
  | .branch _ l r => 1 + max (tht l) (tht r)
def isRedT (red : Nat → Bool) : Tr → Bool
  | .leaf _ => false
  | .branch n _ _ => red n
/-- red and black: k black ones on each way -/
def RB (red : Nat → Bool) : Tr → Nat → Prop
  | .leaf _, k => k = 0
  | .branch n l r, k => (red n = true ∧ isRedT red l = false ∧ isRedT red r = false ∧ RB red l k ∧ RB red r k) ∨ (red n = false ∧ ∃ j, k = j + 1 ∧ RB red l j ∧ RB red r j)
theorem tsz_ino (t : Tr) : (ino t).length = tsz t := by
  induction t with
  | leaf _ => rfl
  | branch n l r hl hr =>
    show (ino l ++ n :: ino r).length = tsz l + tsz r + 1
    rw [List.length_append, List.length_cons, hl, hr]; omega
theorem RB_size {red : Nat → Bool} : ∀ {t : Tr} {k : Nat}, RB red t k → 2 ^ k ≤ tsz t + 1 := by
  intro t
  induction t with
  | leaf _ => intro k h; have h : k = 0 := h; subst h; exact Nat.le_refl _
  | branch n l r hl hr =>
    intro k h
    show 2 ^ k ≤ tsz l + tsz r + 1 + 1
    rcases h with ⟨-, -, -, h1, h2⟩ | ⟨-, j, rfl, h1, h2⟩
    · have := hl h1; omega
    · have a := hl h1; have b := hr h2; rw [Nat.pow_succ]; omega
theorem RB_height {red : Nat → Bool} : ∀ {t : Tr} {k : Nat}, RB red t k → tht t ≤ 2 * k + (if isRedT red t = true then 1 else 0) := by
  intro t
  induction t with
  | leaf _ => intro k h; exact Nat.zero_le _
  | branch n l r hl hr =>
    intro k h
    show 1 + max (tht l) (tht r) ≤ 2 * k + (if red n = true then 1 else 0)
    rcases h with ⟨h0, c1, c2, h1, h2⟩ | ⟨h0, j, rfl, h1, h2⟩
    · have a := hl h1; have b := hr h2
      rw [c1] at a; rw [c2] at b; rw [h0]
      simp only [Bool.false_eq_true, if_false, if_true] at a b ⊢
      omega
    · have a := hl h1; have b := hr h2
      rw [h0]
      have a' : tht l ≤ 2 * j + 1 := Nat.le_trans a (by split <;> omega)
      have b' : tht r ≤ 2 * j + 1 := Nat.le_trans b (by split <;> omega)
      simp only [Bool.false_eq_true, if_false]
      omega
/-- at most 100 nodes: at most 13 levels -/
theorem RB_low {red : Nat → Bool} {t : Tr} {k : Nat} (h : RB red t k) (hn : tsz t ≤ 100) : tht t ≤ 13 := by
  have a := RB_size h
  have b := RB_height h
  have hk : k ≤ 6 := by
    by_cases q : k ≤ 6
    · exact q
    · have : 2 ^ 7 ≤ 2 ^ k := Nat.pow_le_pow_right (by decide) (by omega)
      omega
  split at b <;> omega
/-- the reference's rows 5, 6, 7 hold the tree -/
def Enc (M : MT) : Int32 → Tr → Prop
  | _, .leaf _ => True
  | up, .branch n l r => M 7 n = up ∧ M 5 n = rootOf l ∧ M 6 n = rootOf r ∧ Enc M (nI n) l ∧ Enc M (nI n) r
theorem Enc_congr {M M' : MT} : ∀ {t : Tr} {up : Int32}, (∀ n ∈ ino t, M 5 n = M' 5 n ∧ M 6 n = M' 6 n ∧ M 7 n = M' 7 n) → Enc M up t → Enc M' up t := by
  intro t
  induction t with
  | leaf _ => intro up _ _; trivial
  | branch n l r hl hr =>
    intro up h ⟨e1, e2, e3, e4, e5⟩
    have hn := h n (List.mem_append_right _ List.mem_cons_self)
    exact ⟨hn.2.2 ▸ e1, hn.1 ▸ e2, hn.2.1 ▸ e3, hl (fun x hx => h x (List.mem_append_left _ hx)) e4, hr (fun x hx => h x (List.mem_append_right _ (List.mem_cons_of_mem _ hx))) e5⟩
