def lessB (M : MT) (a b : Nat) : Bool := decide ((M 1 a).toInt < (M 1 b).toInt ∨ (M 1 a = M 1 b ∧ ((M 2 a).toInt < (M 2 b).toInt ∨ (M 2 a = M 2 b ∧ a < b))))
theorem lessB_iff {M : MT} {a b : Nat} : lessB M a b = true ↔ less M a b := decide_eq_true_iff
theorem thn_ne {M : MT} {k : Int32} {i a : Nat} (h : i ≠ 0) : thn M k i a = M i a := up2_ne (fun q => h q.1)
theorem thn_less {M : MT} {k : Int32} {a b : Nat} : less (thn M k) a b ↔ less M a b := by
  unfold less
  rw [thn_ne (by decide), thn_ne (by decide), thn_ne (by decide), thn_ne (by decide)]
theorem thn_live {M : MT} {k : Int32} {N : Nat} {l : List Nat} (h : LiveRow (thn M k) N l) : LiveRow M N l := by
  refine ⟨h.1.imp (fun w => thn_less.mp w), fun b => ?_, h.2.2⟩
  have := h.2.1 b; rw [thn_ne (by decide)] at this; exact this
section MORE
variable {z : Nat × Nat} {d : Nat} {M : MT} {Q : Option AV → MT → Prop} {N : Nat} {x y w : Int32}
theorem L_rank {b : Nat} (hb : b < 500) (hN : M 0 10 = nI N) (hN5 : N ≤ 500) (hd : 0 < d) : ∀ (n k : Nat) (acc : Int32), k + n = N → Q (some (vi (acc + isum (fun a => if M 4 a = 0 ∧ lessB M a b = true then 1 else 0) (List.range' k n)))) M →
    WK z d j_Mo_rank 23 [some (vr (some 0)), some (vi (nI b)), some (vi acc), some (vi (nI k))] [] M Q := by
  intro n
  induction n with
  | zero =>
    intro k acc hk q
    refine M_rank_23 ?_
    rw [hN, if_neg (nI_nlt (by omega) (by omega))]
    have e : acc + isum (fun a => if M 4 a = 0 ∧ lessB M a b = true then 1 else 0) (List.range' k 0) = acc := i32_zero acc
    rw [e] at q; exact q
  | succ n ih =>
    intro k acc hk q
    have hk5 : k < 500 := by omega
    have e : acc + isum (fun a => if M 4 a = 0 ∧ lessB M a b = true then 1 else 0) (List.range' k (n + 1)) = acc + (if M 4 k = 0 ∧ lessB M k b = true then 1 else 0) + isum (fun a => if M 4 a = 0 ∧ lessB M a b = true then 1 else 0) (List.range' (k + 1) n) := by
      rw [List.range'_succ]; exact (i32_assoc _ _ _).symm
    rw [e] at q
    refine M_rank_23 ?_
    rw [hN, if_pos (nI_lt (by omega) (by omega)), nI_clamp (by omega), nI_1]
    refine ⟨ix_nI hk5 (by decide), ?_⟩
    split
    · rename_i c
      refine ⟨hd, S_isLess hk5 hb ?_ ?_⟩
      · intro a1
        rw [if_pos ⟨c, lessB_iff.mpr a1⟩] at q
        exact onI_1 (ih _ _ (by omega) q)
      · intro a1
        rw [if_neg (fun w => a1 (lessB_iff.mp w.2))] at q
        exact onI_0 (ih _ _ (by omega) q)
    · rename_i c
      rw [if_neg (fun w => c w.1)] at q
      exact ih _ _ (by omega) q
theorem S_rank (hN : M 0 10 = nI N) (hN5 : N ≤ 500) (hd : 2 < d) (q1 : ∀ b, b < N → x = nI b → M 4 b = 0 → Q (some (vi (isum (fun a => if M 4 a = 0 ∧ lessB M a b = true then 1 else 0) (List.range' 0 N)))) (thn M 0)) (q2 : ¬ (ix x N ∧ M 4 x.toNatClampNeg = 0) → Q (some (vi 0)) (thn M 1)) : WQ z d j_Mo_rank [vr (some 0), vi x] M Q := by
  refine M_rank_0 ⟨by omega, S_isLive (N := N) (by rw [up2_ne (by decide)]; exact hN) hN5 (by omega) ?_ ?_⟩
  · intro h e
    rw [up2_ne (by omega)] at e
    obtain ⟨b, hb, rfl⟩ := ix_ex h (by omega)
    rw [nI_clamp (by omega)] at e
    refine onI_1 ?_
    rw [← nI_0]
    refine L_rank (N := N) (by omega) (by rw [up2_ne (by decide)]; exact hN) hN5 (by omega) N 0 (nI 0) (by omega) ?_
    rw [nI_0, i32_comm, i32_zero]
    have e2 : (fun a => if (thn M 0) 4 a = 0 ∧ lessB (thn M 0) a b = true then (1 : Int32) else 0) = fun a => if M 4 a = 0 ∧ lessB M a b = true then 1 else 0 := by
      funext a; unfold lessB; rw [thn_ne (by decide), thn_ne (by decide), thn_ne (by decide), thn_ne (by decide), thn_ne (by decide)]
    rw [e2]; exact q1 b hb rfl e
  · intro h; rw [up2_ne (by omega)] at h; exact onI_0 (S_fails' (by omega) (q2 h))
/-- what addWeight leaves: the first k are done -/
def wAdd (M : MT) (f t w : Int32) (k : Nat) : MT := fun i a => if i = 3 ∧ a < k ∧ M 4 a ≠ 2 ∧ f.toInt ≤ (M 1 a).toInt ∧ (M 1 a).toInt ≤ t.toInt then M i a + w else M i a
theorem wAdd_ne {k i a : Nat} (h : i ≠ 3) : wAdd M x y w k i a = M i a := by
  unfold wAdd; rw [if_neg (fun q => h q.1)]
theorem wAdd_skip {k : Nat} (h : ¬ (M 4 k ≠ 2 ∧ x.toInt ≤ (M 1 k).toInt ∧ (M 1 k).toInt ≤ y.toInt)) : wAdd M x y w (k + 1) = wAdd M x y w k := by
  funext i a; unfold wAdd
  by_cases c : i = 3 ∧ a < k ∧ M 4 a ≠ 2 ∧ x.toInt ≤ (M 1 a).toInt ∧ (M 1 a).toInt ≤ y.toInt
  · rw [if_pos c, if_pos ⟨c.1, by omega, c.2.2⟩]
  · rw [if_neg c, if_neg]
    intro q
    by_cases e : a = k
    · subst e; exact h q.2.2
    · exact c ⟨q.1, by omega, q.2.2⟩
theorem wAdd_step {k : Nat} (h : M 4 k ≠ 2 ∧ x.toInt ≤ (M 1 k).toInt ∧ (M 1 k).toInt ≤ y.toInt) : up2 (wAdd M x y w k) 3 k (wAdd M x y w k 3 k + w) = wAdd M x y w (k + 1) := by
  funext i a; unfold up2
  by_cases e : i = 3 ∧ a = k
  · obtain ⟨rfl, rfl⟩ := e
    rw [if_pos ⟨rfl, rfl⟩]; unfold wAdd
    rw [if_neg (by omega), if_pos ⟨rfl, by omega, h⟩]
  · rw [if_neg e]; unfold wAdd
    by_cases c : i = 3 ∧ a < k ∧ M 4 a ≠ 2 ∧ x.toInt ≤ (M 1 a).toInt ∧ (M 1 a).toInt ≤ y.toInt
    · rw [if_pos c, if_pos ⟨c.1, by omega, c.2.2⟩]
    · rw [if_neg c, if_neg]
      intro q; exact c ⟨q.1, by omega, q.2.2⟩
theorem L_addWeight (hN : M 0 10 = nI N) (hN5 : N ≤ 500) (hd : 0 < d) : ∀ (n k : Nat) (acc : Int32), k + n = N → Q (some (vi (acc + isum (fun a => if M 4 a = 0 ∧ x.toInt ≤ (M 1 a).toInt ∧ (M 1 a).toInt ≤ y.toInt then 1 else 0) (List.range' k n)))) (wAdd M x y w N) →
    WK z d j_Mo_addWeight 35 [some (vr (some 0)), some (vi x), some (vi y), some (vi w), some (vi acc), some (vi (nI k))] [] (wAdd M x y w k) Q := by
  intro n
  induction n with
  | zero =>
    intro k acc hk q
    refine M_addWeight_35 ?_
    rw [wAdd_ne (by decide), hN, if_neg (nI_nlt (by omega) (by omega))]
    have e : acc + isum (fun a => if M 4 a = 0 ∧ x.toInt ≤ (M 1 a).toInt ∧ (M 1 a).toInt ≤ y.toInt then 1 else 0) (List.range' k 0) = acc := i32_zero acc
    have e2 : k = N := by omega
    rw [e] at q; rw [e2]; exact q
  | succ n ih =>
    intro k acc hk q
    have hk5 : k < 500 := by omega
    have e : acc + isum (fun a => if M 4 a = 0 ∧ x.toInt ≤ (M 1 a).toInt ∧ (M 1 a).toInt ≤ y.toInt then 1 else 0) (List.range' k (n + 1)) = acc + (if M 4 k = 0 ∧ x.toInt ≤ (M 1 k).toInt ∧ (M 1 k).toInt ≤ y.toInt then 1 else 0) + isum (fun a => if M 4 a = 0 ∧ x.toInt ≤ (M 1 a).toInt ∧ (M 1 a).toInt ≤ y.toInt then 1 else 0) (List.range' (k + 1) n) := by
      rw [List.range'_succ]; exact (i32_assoc _ _ _).symm
    rw [e] at q
    refine M_addWeight_35 ?_
    rw [wAdd_ne (show (0 : Nat) ≠ 3 by decide), hN, if_pos (nI_lt (by omega) (by omega)), nI_clamp (by omega), nI_1, wAdd_ne (show (4 : Nat) ≠ 3 by decide), wAdd_ne (show (1 : Nat) ≠ 3 by decide)]
    refine ⟨ix_nI hk5 (by decide), ?_⟩
    split
    · rename_i c
      rw [if_neg (fun u => by rw [u.1] at c; exact absurd c (by decide)), i32_zero] at q
      rw [← wAdd_skip (fun u => u.1 c)]
      exact ih _ _ (by omega) q
    · rename_i c
      refine ⟨ix_nI hk5 (by decide), hd, S_in ?_ ?_⟩
      · intro h
        refine onI_1 ⟨ix_nI hk5 (by decide), ix_nI hk5 (by decide), ix_nI hk5 (by decide), ?_⟩
        rw [wAdd_step ⟨c, h⟩, wAdd_ne (show (4 : Nat) ≠ 3 by decide)]
        split
        · rename_i c0
          rw [if_pos ⟨c0, h⟩] at q
          exact ih _ _ (by omega) q
        · rename_i c0
          rw [if_neg (fun u => c0 u.1)] at q
          exact ih _ _ (by omega) q
      · intro h
        refine onI_0 ?_
        rw [if_neg (fun u => h u.2), i32_zero] at q
        rw [← wAdd_skip (fun u => h u.2)]
        exact ih _ _ (by omega) q
end MORE
