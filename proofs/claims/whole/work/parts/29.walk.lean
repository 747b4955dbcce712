/-! ===== walks along the row ===== -/
def idI : Option Nat → Int32
  | none => -1
  | some a => nI a
section WALK
variable {z : Nat × Nat} {d : Nat} {M : MT} {Q : Option AV → MT → Prop} {N : Nat} {x : Int32}
/-- the row is laid: pre ++ suf -/
def Laid (M : MT) (l : List Nat) : Prop := RowIs M l ∧ M 0 17 = nI l.length ∧ l.length ≤ 500 ∧ ∀ a ∈ l, a < 500
theorem Laid.at {pre suf : List Nat} {a : Nat} (h : Laid M (pre ++ a :: suf)) : nI pre.length < M 0 17 ∧ ix (nI pre.length) 500 ∧ M 9 (nI pre.length).toNatClampNeg = nI a ∧ ix (nI a) 500 ∧ (nI a).toNatClampNeg = a ∧ a < 500 ∧ nI pre.length + 1 = nI (pre ++ [a]).length ∧ Laid M ((pre ++ [a]) ++ suf) := by
  have hl : pre.length + suf.length + 1 ≤ 500 := by have := h.2.2.1; simp at this; omega
  have ha : a < 500 := h.2.2.2 a (by simp)
  refine ⟨?_, ix_nI (by omega) (by decide), ?_, ix_nI ha (by decide), nI_clamp (by omega), ha, ?_, ?_⟩
  · rw [h.2.1]; exact nI_lt (by simp) (by simp; omega)
  · rw [nI_clamp (by omega)]; exact h.1 _ _ (by simp)
  · rw [nI_1]; simp
  · rw [List.append_assoc]; exact h
theorem Laid.fin {pre : List Nat} (h : Laid M (pre ++ [])) : ¬ nI pre.length < M 0 17 := by
  rw [List.append_nil] at h
  rw [h.2.1]; exact nI_nlt (Nat.le_refl _) (by have := h.2.2.1; omega)
theorem L_ceiling : ∀ (suf pre : List Nat), Laid M (pre ++ suf) → Q (some (vi (idI (suf.find? fun a => decide (x.toInt ≤ (M 1 a).toInt))))) M → WK z d j_Mo_ceiling 6 [some (vr (some 0)), some (vi x), some (vi (nI pre.length))] [] M Q := by
  intro suf
  induction suf with
  | nil =>
    intro pre h q
    refine M_ceiling_6 ?_
    rw [if_neg h.fin]; exact q
  | cons a suf ih =>
    intro pre h q
    obtain ⟨h1, h2, h3, h4, h5, h6, h7, h8⟩ := h.at
    refine M_ceiling_6 ?_
    rw [if_pos h1, h3, h5, h7]
    refine ⟨h2, h4, ?_⟩
    split
    · rename_i c
      rw [i_lt] at c
      refine ih _ h8 ?_
      rw [List.find?_cons_of_neg (by simp; omega)] at q; exact q
    · rename_i c
      rw [i_lt] at c
      rw [List.find?_cons_of_pos (by simp; omega)] at q; exact ⟨h2, q⟩
theorem L_floor : ∀ (suf pre : List Nat) (o : Option Nat), Laid M (pre ++ suf) → Q (some (vi (idI (suf.foldl (fun o a => if (M 1 a).toInt ≤ x.toInt then some a else o) o)))) M → WK z d j_Mo_floor 8 [some (vr (some 0)), some (vi x), some (vi (idI o)), some (vi (nI pre.length))] [] M Q := by
  intro suf
  induction suf with
  | nil =>
    intro pre o h q
    refine M_floor_8 ?_
    rw [if_neg h.fin]; exact q
  | cons a suf ih =>
    intro pre o h q
    obtain ⟨h1, h2, h3, h4, h5, h6, h7, h8⟩ := h.at
    rw [List.foldl_cons] at q
    refine M_floor_8 ?_
    rw [if_pos h1, h3, h5, h7]
    refine ⟨h2, h4, ?_⟩
    split
    · rename_i c
      rw [i_lt] at c
      rw [if_neg (by omega)] at q
      exact ih _ _ h8 q
    · rename_i c
      rw [i_lt] at c
      rw [if_pos (by omega)] at q
      exact ⟨h2, ih _ (some a) h8 q⟩
end WALK
