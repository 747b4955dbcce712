/-! ===== filters: what a list of steps says of an interval ===== -/
abbrev SP := Int32 × Int32 × Int32 × Int32
def fval (K : MT) (i : Nat) (p : Int32) : Int32 := if p = 0 then K 1 i else if p = 1 then K 2 i else if p = 2 then K 3 i else K 2 i - K 1 i
def ovA (K : MT) (l : List Nat) (i : Nat) : Bool := l.any (fun o => decide (o ≠ i ∧ (K 1 o).toInt ≤ (K 2 i).toInt ∧ (K 1 i).toInt ≤ (K 2 o).toInt))
def inr (K : MT) (i : Nat) (s : SP) : Bool := decide (s.2.2.1.toInt ≤ (fval K i s.2.1).toInt ∧ (fval K i s.2.1).toInt ≤ s.2.2.2.toInt)
def pfm (K : MT) (l : List Nat) (i : Nat) (A : Nat → Bool) (s : SP) (st : List Bool) : List Bool :=
  if s.1 = 0 then inr K i s :: st else if s.1 = 1 then ovA K l i :: st else if s.1 = 2 then A s.2.1.toNatClampNeg :: st
  else if s.1 = 3 then (!(st.headD false)) :: st.tail else if s.1 = 4 then (st.tail.headD false && st.headD false) :: st.tail.tail
  else if s.1 = 5 then (st.tail.headD false || st.headD false) :: st.tail.tail else st
def ev (K : MT) (l : List Nat) (i : Nat) (A : Nat → Bool) (L : List SP) (st : List Bool) : List Bool := L.foldl (fun st s => pfm K l i A s st) st
def ans (K : MT) (l : List Nat) (i : Nat) (FL : Nat → List SP) : Nat → Nat → Bool
  | 0 => fun _ => false
  | n + 1 => fun k => if k = n then (ev K l i (ans K l i FL n) (FL n) []).headD false else ans K l i FL n k
def tk (K : MT) (l : List Nat) (i : Nat) (FL : Nat → List SP) (f : Nat) : Bool := (ev K l i (ans K l i FL f) (FL f) []).headD false
/-- a list of steps that leaves one answer, of a filter that refers to earlier ones alone -/
def wf (f : Nat) : List SP → Nat → Prop
  | [], n => n = 1
  | s :: L, n => ((s.1 = 0 ∨ s.1 = 1 ∨ (s.1 = 2 ∧ ∃ r, r < f ∧ s.2.1 = nI r)) ∧ n < 31 ∧ wf f L (n + 1)) ∨ (s.1 = 3 ∧ 1 ≤ n ∧ wf f L n) ∨ ((s.1 = 4 ∨ s.1 = 5) ∧ 2 ≤ n ∧ wf f L (n - 1))
def refd (L : List SP) (r : Nat) : Prop := ∃ s, s ∈ L ∧ s.1 = 2 ∧ s.2.1 = nI r
/-- what the numbers of needed filters hold -/
def PF (FL : Nat → List SP) (NB : Nat → Int32) (nf : Nat) : Prop := ∀ f, f < nf → wf f (FL f) 0 ∧ bA (NB f) f = true ∧ (∀ i, bA (NB f) i = true → i ≤ f) ∧ ∀ i, bA (NB f) i = true → ∀ r, r < i → refd (FL i) r → bA (NB f) r = true
section FILT
variable {K : MT} {l : List Nat} {i f : Nat} {A B : Nat → Bool} {FL : Nat → List SP} {s : SP} {L : List SP} {st : List Bool}
theorem ans_lt : ∀ {n k : Nat}, k < n → ans K l i FL n k = tk K l i FL k := by
  intro n
  induction n with
  | zero => intro k h; omega
  | succ n ih =>
    intro k h
    show (if k = n then _ else _) = _
    by_cases c : k = n
    · rw [if_pos c]; subst c; rfl
    · rw [if_neg c]; exact ih (by omega)
theorem ev_cons : ev K l i A (s :: L) st = ev K l i A L (pfm K l i A s st) := rfl
theorem ev_nil : ev K l i A [] st = st := rfl
theorem refd_cons {r : Nat} (h : refd L r) : refd (s :: L) r := by obtain ⟨q, h1, h2⟩ := h; exact ⟨q, List.mem_cons_of_mem _ h1, h2⟩
/-- one step of a proper list: what it makes of the stack -/
theorem wf_step (h8 : f ≤ 8) (h : wf f (s :: L) st.length) : (s.1 = 0 ∧ st.length < 31 ∧ pfm K l i A s st = inr K i s :: st ∧ wf f L (pfm K l i A s st).length) ∨ (s.1 = 1 ∧ st.length < 31 ∧ pfm K l i A s st = ovA K l i :: st ∧ wf f L (pfm K l i A s st).length) ∨ (s.1 = 2 ∧ st.length < 31 ∧ (∃ r, r < f ∧ s.2.1 = nI r ∧ refd (s :: L) r ∧ pfm K l i A s st = A r :: st) ∧ wf f L (pfm K l i A s st).length) ∨ (s.1 = 3 ∧ (∃ b r, st = b :: r ∧ pfm K l i A s st = (!b) :: r) ∧ wf f L (pfm K l i A s st).length) ∨ (s.1 = 4 ∧ (∃ a b r, st = b :: a :: r ∧ pfm K l i A s st = (a && b) :: r) ∧ wf f L (pfm K l i A s st).length) ∨ (s.1 = 5 ∧ (∃ a b r, st = b :: a :: r ∧ pfm K l i A s st = (a || b) :: r) ∧ wf f L (pfm K l i A s st).length) := by
  rcases h with ⟨h1 | h1 | ⟨h1, r, hr, e⟩, h2, h3⟩ | ⟨h1, h2, h3⟩ | ⟨h1, h2, h3⟩
  · have p : pfm K l i A s st = inr K i s :: st := by unfold pfm; rw [if_pos h1]
    exact Or.inl ⟨h1, h2, p, by rw [p]; exact h3⟩
  · have p : pfm K l i A s st = ovA K l i :: st := by unfold pfm; rw [if_neg (by rw [h1]; decide), if_pos h1]
    exact Or.inr (Or.inl ⟨h1, h2, p, by rw [p]; exact h3⟩)
  · have p : pfm K l i A s st = A r :: st := by unfold pfm; rw [if_neg (by rw [h1]; decide), if_neg (by rw [h1]; decide), if_pos h1, e, nI_clamp (by omega)]
    exact Or.inr (Or.inr (Or.inl ⟨h1, h2, ⟨r, hr, e, ⟨s, List.mem_cons_self, h1, e⟩, p⟩, by rw [p]; exact h3⟩))
  · cases st with
    | nil => cases h2
    | cons b r =>
      have p : pfm K l i A s (b :: r) = (!b) :: r := by unfold pfm; rw [if_neg (by rw [h1]; decide), if_neg (by rw [h1]; decide), if_neg (by rw [h1]; decide), if_pos h1]; rfl
      exact Or.inr (Or.inr (Or.inr (Or.inl ⟨h1, ⟨b, r, rfl, p⟩, by rw [p]; exact h3⟩)))
  · match st, h2, h3 with
    | b :: a :: r, h2, h3 =>
      rcases h1 with h1 | h1
      · have p : pfm K l i A s (b :: a :: r) = (a && b) :: r := by unfold pfm; rw [if_neg (by rw [h1]; decide), if_neg (by rw [h1]; decide), if_neg (by rw [h1]; decide), if_neg (by rw [h1]; decide), if_pos h1]; rfl
        exact Or.inr (Or.inr (Or.inr (Or.inr (Or.inl ⟨h1, ⟨a, b, r, rfl, p⟩, by rw [p]; exact h3⟩))))
      · have p : pfm K l i A s (b :: a :: r) = (a || b) :: r := by unfold pfm; rw [if_neg (by rw [h1]; decide), if_neg (by rw [h1]; decide), if_neg (by rw [h1]; decide), if_neg (by rw [h1]; decide), if_neg (by rw [h1]; decide), if_pos h1]; rfl
        exact Or.inr (Or.inr (Or.inr (Or.inr (Or.inr ⟨h1, ⟨a, b, r, rfl, p⟩, by rw [p]; exact h3⟩))))
/-- only the answers that are referred to matter -/
theorem ev_congr (h8 : f ≤ 8) : ∀ (L : List SP) (st : List Bool), wf f L st.length → (∀ r, r < f → refd L r → A r = B r) → ev K l i A L st = ev K l i B L st := by
  intro L
  induction L with
  | nil => intro st _ _; rfl
  | cons s L ih =>
    intro st h hr
    have key : pfm K l i A s st = pfm K l i B s st := by
      by_cases c : s.1 = 2
      · rcases h with ⟨h1 | h1 | ⟨h1, r, hr', e⟩, h2, h3⟩ | ⟨h1, h2, h3⟩ | ⟨h1 | h1, h2, h3⟩
        · rw [h1] at c; cases c
        · rw [h1] at c; cases c
        · unfold pfm; rw [e, nI_clamp (by omega), hr r hr' ⟨s, List.mem_cons_self, h1, e⟩]
        · rw [h1] at c; cases c
        · rw [h1] at c; cases c
        · rw [h1] at c; cases c
      · unfold pfm; rw [if_neg c, if_neg c]
    have hn : wf f L (pfm K l i A s st).length := by
      rcases wf_step (K := K) (l := l) (i := i) (A := A) h8 h with h | h | h | h | h | h
      · exact h.2.2.2
      · exact h.2.2.2
      · exact h.2.2.2
      · exact h.2.2
      · exact h.2.2
      · exact h.2.2
    rw [ev_cons, ev_cons, ← key]
    exact ih _ hn (fun r h1 h2 => hr r h1 (refd_cons h2))
theorem tk_of (h8 : f ≤ 8) (h : wf f (FL f) 0) (hA : ∀ r, r < f → refd (FL f) r → A r = tk K l i FL r) : (ev K l i A (FL f) []).headD false = tk K l i FL f := by
  unfold tk
  rw [ev_congr (A := A) (B := ans K l i FL f) h8 (FL f) [] h (fun r h1 h2 => by rw [hA r h1 h2, ans_lt h1])]
end FILT
