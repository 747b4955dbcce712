/-! ===== sums over ids (in Int32: the order doesn't matter) ===== -/
def isum (f : Nat → Int32) : List Nat → Int32
  | [] => 0
  | x :: r => f x + isum f r
theorem i32_comm (a b : Int32) : a + b = b + a := Int32.add_comm a b
theorem i32_assoc (a b c : Int32) : a + b + c = a + (b + c) := Int32.add_assoc a b c
theorem i32_zero (a : Int32) : a + 0 = a := Int32.add_zero a
theorem isum_perm {f : Nat → Int32} {l l' : List Nat} (h : l.Perm l') : isum f l = isum f l' := by
  induction h with
  | nil => rfl
  | cons x _ ih => show f x + _ = f x + _; rw [ih]
  | swap x y l =>
    show f y + (f x + isum f l) = f x + (f y + isum f l)
    rw [← i32_assoc, ← i32_assoc, i32_comm (f y)]
  | trans _ _ h1 h2 => exact h1.trans h2
theorem isum_filter {f : Nat → Int32} {p : Nat → Bool} {l : List Nat} (h : ∀ x ∈ l, p x = false → f x = 0) : isum f (l.filter p) = isum f l := by
  induction l with
  | nil => rfl
  | cons x r ih =>
    have ih := ih (fun y hy => h y (List.mem_cons_of_mem _ hy))
    cases e : p x with
    | true => rw [List.filter_cons_of_pos e]; show f x + _ = f x + _; rw [ih]
    | false =>
      rw [List.filter_cons_of_neg (by rw [e]; decide), ih]
      show _ = f x + isum f r
      rw [h x List.mem_cons_self e, i32_comm, i32_zero]
section LOOPS
variable {z : Nat × Nat} {d : Nat} {M : MT} {Q : Option AV → MT → Prop} {N : Nat} {x y : Int32}
/-- live, and the point or stretch inside -/
abbrev hits (M : MT) (f t : Int32) (a : Nat) : Prop := M 4 a = 0 ∧ (M 1 a).toInt ≤ t.toInt ∧ f.toInt ≤ (M 2 a).toInt
theorem L_stabCount (hN : M 0 10 = nI N) (hN5 : N ≤ 500) (hd : 0 < d) : ∀ (n k : Nat) (acc : Int32), k + n = N → Q (some (vi (acc + isum (fun a => if hits M x x a then 1 else 0) (List.range' k n)))) M →
    WK z d j_Mo_stabCount 4 [some (vr (some 0)), some (vi x), some (vi acc), some (vi (nI k))] [] M Q := by
  intro n
  induction n with
  | zero =>
    intro k acc hk q
    refine M_stabCount_4 ?_
    rw [hN, if_neg (nI_nlt (by omega) (by omega))]
    have e : acc + isum (fun a => if hits M x x a then 1 else 0) (List.range' k 0) = acc := i32_zero acc
    rw [e] at q; exact q
  | succ n ih =>
    intro k acc hk q
    have hk5 : k < 500 := by omega
    have e : acc + isum (fun a => if hits M x x a then 1 else 0) (List.range' k (n + 1)) = acc + (if hits M x x k then 1 else 0) + isum (fun a => if hits M x x a then 1 else 0) (List.range' (k + 1) n) := by
      rw [List.range'_succ]; exact (i32_assoc _ _ _).symm
    rw [e] at q
    refine M_stabCount_4 ?_
    rw [hN, if_pos (nI_lt (by omega) (by omega)), nI_clamp (by omega), nI_1]
    refine ⟨ix_nI hk5 (by decide), ?_⟩
    split
    · rename_i c
      refine ⟨hd, S_overlaps hk5 ?_ ?_⟩
      · intro a1 a2
        rw [if_pos ⟨c, a1, a2⟩] at q
        exact onI_1 (ih _ _ (by omega) q)
      · intro a1
        rw [if_neg (fun w => a1 w.2)] at q
        exact onI_0 (ih _ _ (by omega) q)
    · rename_i c
      rw [if_neg (fun w => c w.1)] at q
      exact ih _ _ (by omega) q
theorem S_stabCount (hN : M 0 10 = nI N) (hN5 : N ≤ 500) (hd : 0 < d) (q : Q (some (vi (isum (fun a => if hits M x x a then 1 else 0) (List.range' 0 N)))) M) : WQ z d j_Mo_stabCount [vr (some 0), vi x] M Q := by
  refine M_stabCount_0 ?_
  rw [← nI_0]
  refine L_stabCount hN hN5 hd N 0 (nI 0) (by omega) ?_
  rw [nI_0, i32_comm, i32_zero]; exact q
end LOOPS
