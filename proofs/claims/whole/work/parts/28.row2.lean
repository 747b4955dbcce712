theorem less_trans {M : MT} {a b c : Nat} (h1 : less M a b) (h2 : less M b c) : less M a c := by
  unfold less at *
  simp only [i_eq] at *
  omega
theorem less_irrefl {M : MT} {a : Nat} : ¬ less M a a := by
  unfold less; omega
theorem less_tri {M : MT} {a b : Nat} (h : ¬ less M a b) (hn : a ≠ b) : less M b a := by
  unfold less at *
  simp only [i_eq] at *
  omega
theorem ins_sorted {M : MT} {a : Nat} {s1 s2 : List Nat} (h : (s1 ++ s2).Pairwise (less M)) (hn : a ∉ s1) (h2 : ∀ b ∈ s2, less M a b) (h1 : ∀ b, s1.getLast? = some b → ¬ less M a b) : (s1 ++ a :: s2).Pairwise (less M) := by
  rw [List.pairwise_append] at h ⊢
  obtain ⟨p1, p2, p3⟩ := h
  refine ⟨p1, List.pairwise_cons.mpr ⟨h2, p2⟩, fun x hx y hy => ?_⟩
  rcases List.mem_cons.mp hy with rfl | hy
  · rcases List.eq_nil_or_concat s1 with rfl | ⟨s, b, rfl⟩
    · cases hx
    · have hb : less M b y := less_tri (h1 b (by simp)) (fun e => hn (by rw [e]; simp))
      rw [List.concat_eq_append] at p1 hx
      rw [List.pairwise_append] at p1
      rcases List.mem_append.mp hx with hx | hx
      · exact less_trans (p1.2.2 x hx b List.mem_cons_self) hb
      · rw [List.mem_singleton.mp hx]; exact hb
  · exact p3 x hx y hy
section ROW2
variable {z : Nat × Nat} {d : Nat} {M0 : MT} {Q : Option AV → MT → Prop} {N : Nat}
/-- the live ones among the first k, in order -/
def LiveRow (M : MT) (k : Nat) (l : List Nat) : Prop := l.Pairwise (less M) ∧ (∀ x, x ∈ l ↔ x < k ∧ M 4 x = 0) ∧ l.length ≤ k
theorem L_row7 (hN : M0 0 10 = nI N) (hN5 : N ≤ 500) (hd : 0 < d) : ∀ (n k : Nat) (l : List Nat) (M : MT) (l2 : Option AV), k + n = N → PRow M0 M → RowIs M l → M 0 17 = nI l.length → LiveRow M0 k l →
    (∀ (l' : List Nat) (M' : MT), PRow M0 M' → RowIs M' l' → M' 0 17 = nI l'.length → LiveRow M0 N l' → Q none M') → WK z d j_Mo_layRow 7 [some (vr (some 0)), some (vi (nI k)), l2] [] M Q := by
  intro n
  induction n with
  | zero =>
    intro k l M l2 hk hp hr hm hl q
    refine M_layRow_7 ?_
    rw [hp 0 10 (by decide) (by decide), hN, if_neg (nI_nlt (by omega) (by omega))]
    have : k = N := by omega
    subst this
    exact q l M hp hr hm hl
  | succ n ih =>
    intro k l M l2 hk hp hr hm hl q
    have hk5 : k < 500 := by omega
    refine M_layRow_7 ?_
    rw [hp 0 10 (by decide) (by decide), hN, if_pos (nI_lt (by omega) (by omega)), nI_clamp (by omega), nI_1, hp 4 k (by decide) (by omega), hm]
    refine ⟨ix_nI hk5 (by decide), ?_⟩
    split
    · rename_i c
      refine L_row32 (M0 := M0) hd hk5 l.length l [] M rfl (by have := hl.2.2; simp; omega) (fun b hb => by have := ((hl.2.1 b).mp hb).1; omega) hp (by simpa using hm) hr (fun j b hj => by cases hj) (fun b hb => by cases hb) ?_
      intro s1 s2 M' l3 he g1 g2 g3 g4 g5
      rw [List.append_nil] at he
      subst he
      have hx : ∀ x, x ∈ s1 ++ k :: s2 ↔ x ∈ s1 ++ s2 ∨ x = k := fun x => by
        simp only [List.mem_append, List.mem_cons]
        constructor
        · rintro (h | h | h)
          · exact Or.inl (Or.inl h)
          · exact Or.inr h
          · exact Or.inl (Or.inr h)
        · rintro ((h | h) | h)
          · exact Or.inl h
          · exact Or.inr (Or.inr h)
          · exact Or.inr (Or.inl h)
      refine ih (k + 1) (s1 ++ k :: s2) M' l3 (by omega) g5 g3 ?_ ⟨ins_sorted hl.1 (fun hin => ?_) g1 g2, fun x => ?_, ?_⟩ q
      · rw [g4]; congr 1; simp; omega
      · have := ((hl.2.1 k).mp (List.mem_append_left _ hin)).1; omega
      · rw [hx x, hl.2.1 x]
        constructor
        · rintro (⟨h1, h2⟩ | rfl)
          · exact ⟨by omega, h2⟩
          · exact ⟨by omega, c⟩
        · rintro ⟨h1, h2⟩
          by_cases e : x = k
          · exact Or.inr e
          · exact Or.inl ⟨by omega, h2⟩
      · have := hl.2.2; simp at this ⊢; omega
    · rename_i c
      refine ih (k + 1) l M l2 (by omega) hp hr hm ⟨hl.1, fun x => ?_, by have := hl.2.2; omega⟩ q
      rw [hl.2.1 x]
      constructor
      · rintro ⟨h1, h2⟩; exact ⟨by omega, h2⟩
      · rintro ⟨h1, h2⟩
        by_cases e : x = k
        · rw [e] at h2; exact absurd h2 c
        · exact ⟨by omega, h2⟩
theorem S_layRow {M : MT} (hN : M 0 10 = nI N) (hN5 : N ≤ 500) (hd : 0 < d) (q : ∀ (l : List Nat) (M' : MT), PRow M M' → RowIs M' l → M' 0 17 = nI l.length → LiveRow M N l → Q none M') : WQ z d j_Mo_layRow [vr (some 0)] M Q := by
  refine M_layRow_0 ?_
  rw [← nI_0]
  refine L_row7 (M0 := M) hN hN5 hd N 0 [] _ none (by omega) (fun i k hi hk => up2_ne hk) (fun j b hj => by cases hj) up2_at ⟨List.Pairwise.nil, fun x => ⟨fun h => (by cases h), fun h => (by omega)⟩, Nat.le_refl _⟩ q
end ROW2
