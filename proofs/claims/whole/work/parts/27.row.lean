/-! ===== the reference's row: the live ones in the order of their keys ===== -/
def RowIs (M : MT) (l : List Nat) : Prop := ∀ j b, l[j]? = some b → M 9 j = nI b
def PRow (M M' : MT) : Prop := ∀ i k, i ≠ 9 → ¬ (i = 0 ∧ k = 17) → M' i k = M i k
theorem PRow.less {M M' : MT} (h : PRow M M') {a b : Nat} : less M' a b ↔ less M a b := by
  unfold Jvm.Pilot.CIntervalTreeLaw_law_r9763_99fb55.less
  rw [h 1 a (by decide) (by omega), h 1 b (by decide) (by omega), h 2 a (by decide) (by omega), h 2 b (by decide) (by omega)]
section ROW
variable {z : Nat × Nat} {d : Nat} {M0 : MT} {Q : Option AV → MT → Prop} {N : Nat} {a : Nat}
theorem row_put {M M1 : MT} {r1 r2 : List Nat} (hp : PRow M0 M) (hm : M 0 17 = nI (r1.length + r2.length)) (h1 : ∀ j b, r1[j]? = some b → M 9 j = nI b) (h2 : ∀ j b, r2[j]? = some b → M 9 (r1.length + 1 + j) = nI b)
    (e : M1 = up2 (up2 M 9 r1.length (nI a)) 0 17 ((up2 M 9 r1.length (nI a)) 0 17 + 1)) : RowIs M1 (r1 ++ a :: r2) ∧ M1 0 17 = nI (r1.length + r2.length + 1) ∧ PRow M0 M1 := by
  subst e
  refine ⟨fun j b hj => ?_, ?_, fun i k hi hk => ?_⟩
  · rw [up2_ne (by omega)]
    by_cases c : j < r1.length
    · rw [List.getElem?_append_left c] at hj
      rw [up2_ne (by omega)]; exact h1 j b hj
    · rw [List.getElem?_append_right (by omega)] at hj
      by_cases c2 : j = r1.length
      · subst c2
        rw [Nat.sub_self] at hj
        cases Option.some.inj hj
        exact up2_at
      · obtain ⟨i, rfl⟩ : ∃ i, j = r1.length + 1 + i := ⟨j - r1.length - 1, by omega⟩
        rw [show r1.length + 1 + i - r1.length = i + 1 by omega, List.getElem?_cons_succ] at hj
        rw [up2_ne (by omega)]; exact h2 i b hj
  · rw [up2_at, up2_ne (by omega), hm, nI_1]
  · rw [up2_ne hk, up2_ne (by omega)]; exact hp i k hi hk
theorem L_row32 (hd : 0 < d) (ha : a < 500) : ∀ (n : Nat) (r1 r2 : List Nat) (M : MT), r1.length = n → r1.length + r2.length < 500 → (∀ b ∈ r1, b < 500) → PRow M0 M → M 0 17 = nI (r1.length + r2.length) → (∀ j b, r1[j]? = some b → M 9 j = nI b) → (∀ j b, r2[j]? = some b → M 9 (r1.length + 1 + j) = nI b) → (∀ b ∈ r2, less M0 a b) →
    (∀ (s1 s2 : List Nat) (M' : MT) (l : Option AV), s1 ++ s2 = r1 ++ r2 → (∀ b ∈ s2, less M0 a b) → (∀ b, s1.getLast? = some b → ¬ less M0 a b) → RowIs M' (s1 ++ a :: s2) → M' 0 17 = nI (s1.length + s2.length + 1) → PRow M0 M' → WK z d j_Mo_layRow 7 [some (vr (some 0)), some (vi (nI (a + 1))), l] [] M' Q) →
    WK z d j_Mo_layRow 32 [some (vr (some 0)), some (vi (nI a)), some (vi (nI r1.length))] [] M Q := by
  intro n
  induction n with
  | zero =>
    intro r1 r2 M hn hl hr hp hm h1 h2 hg q
    have e0 : r1 = [] := List.eq_nil_of_length_eq_zero hn
    subst e0
    refine M_layRow_32 ?_
    rw [show nI ([] : List Nat).length = 0 from nI_0, if_neg (by decide)]
    refine ⟨by rw [← nI_0]; exact ix_nI (by decide) (by decide), fun M1 e => ?_⟩
    rw [nI_1]
    obtain ⟨p1, p2, p3⟩ := row_put (r1 := []) (a := a) hp hm h1 h2 e
    exact q [] r2 M1 _ rfl hg (fun b hb => by cases hb) p1 p2 p3
  | succ n ih =>
    intro r1 r2 M hn hl hr hp hm h1 h2 hg q
    obtain ⟨s, b, rfl⟩ : ∃ s b, r1 = s ++ [b] := by
      rcases List.eq_nil_or_concat r1 with rfl | ⟨s, b, rfl⟩
      · cases hn
      · exact ⟨s, b, by simp⟩
    have hs : s.length = n := by simpa using hn
    have hlen : (s ++ [b]).length = n + 1 := hn
    have hM : M 9 n = nI b := h1 n b (by rw [← hs]; simp)
    have hb : b < 500 := hr b (by simp)
    refine M_layRow_32 ?_
    rw [hlen] at hl hm h2 ⊢
    rw [if_pos (by rw [← nI_0]; exact nI_lt (by omega) (by omega)), nI_pred, nI_clamp (n := n) (by omega), nI_clamp (n := n + 1) (by omega), hM]
    refine ⟨ix_nI (by omega) (by decide), hd, S_isLess ha hb ?_ ?_⟩
    · intro c
      refine onI_1 ⟨ix_nI (by omega) (by decide), ix_nI (by omega) (by decide), fun M7 e => ?_⟩
      rw [show nI (n + 1) + (-1 : Int32) = nI s.length by rw [hs, ← nI_pred n]; exact (Int32.sub_eq_add_neg _ _).symm]
      have e9 : ∀ j, j ≠ n + 1 → M7 9 j = M 9 j := fun j hj => by rw [e, up2_ne (by omega)]
      refine ih s (b :: r2) M7 hs (by rw [List.length_cons]; omega) (fun x hx => hr x (List.mem_append_left _ hx)) ?_ ?_ ?_ ?_ ?_ ?_
      · intro i k hi hk; rw [e, up2_ne (by omega)]; exact hp i k hi hk
      · rw [e, up2_ne (by omega), hm, List.length_cons, hs]; congr 1; omega
      · intro j x hj
        have hjl : j < s.length := (List.getElem?_eq_some_iff.mp hj).1
        rw [e9 j (by omega)]; exact h1 j x (by rw [List.getElem?_append_left hjl]; exact hj)
      · intro j x hj
        cases j with
        | zero =>
          cases Option.some.inj hj
          rw [show s.length + 1 + 0 = n + 1 by omega, e, up2_at]; exact hM
        | succ j =>
          rw [List.getElem?_cons_succ] at hj
          rw [show s.length + 1 + (j + 1) = n + 1 + 1 + j by omega, e9 _ (by omega)]; exact h2 j x hj
      · intro x hx
        rcases List.mem_cons.mp hx with rfl | hx
        · exact hp.less.mp c
        · exact hg x hx
      · intro s1 s2 M' l he
        exact q s1 s2 M' l (by rw [he]; simp)
    · intro c
      refine onI_0 ⟨ix_nI (by omega) (by decide), fun M6 e => ?_⟩
      rw [nI_1]
      rw [← hlen] at hm h2 e
      obtain ⟨p1, p2, p3⟩ := row_put (r1 := s ++ [b]) (a := a) hp hm h1 h2 e
      exact q (s ++ [b]) r2 M6 _ rfl hg (fun x hx => by
        rw [List.getLast?_append] at hx
        cases Option.some.inj hx
        exact fun w => c (hp.less.mpr w)) p1 p2 p3
end ROW
