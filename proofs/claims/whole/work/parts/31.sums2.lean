section SUMS2
variable {z : Nat × Nat} {d : Nat} {M : MT} {Q : Option AV → MT → Prop} {N : Nat} {x y : Int32}
theorem L_stabWeight (hN : M 0 10 = nI N) (hN5 : N ≤ 500) (hd : 0 < d) : ∀ (n k : Nat) (acc : Int32), k + n = N → Q (some (vi (acc + isum (fun a => if hits M x x a then M 3 a else 0) (List.range' k n)))) M →
    WK z d j_Mo_stabWeight 4 [some (vr (some 0)), some (vi x), some (vi acc), some (vi (nI k))] [] M Q := by
  intro n
  induction n with
  | zero =>
    intro k acc hk q
    refine M_stabWeight_4 ?_
    rw [hN, if_neg (nI_nlt (by omega) (by omega))]
    have e : acc + isum (fun a => if hits M x x a then M 3 a else 0) (List.range' k 0) = acc := i32_zero acc
    rw [e] at q; exact q
  | succ n ih =>
    intro k acc hk q
    have hk5 : k < 500 := by omega
    have e : acc + isum (fun a => if hits M x x a then M 3 a else 0) (List.range' k (n + 1)) = acc + (if hits M x x k then M 3 k else 0) + isum (fun a => if hits M x x a then M 3 a else 0) (List.range' (k + 1) n) := by
      rw [List.range'_succ]; exact (i32_assoc _ _ _).symm
    rw [e] at q
    refine M_stabWeight_4 ?_
    rw [hN, if_pos (nI_lt (by omega) (by omega)), nI_clamp (by omega), nI_1]
    refine ⟨ix_nI hk5 (by decide), ?_⟩
    split
    · rename_i c
      refine ⟨hd, S_overlaps hk5 ?_ ?_⟩
      · intro a1 a2
        rw [if_pos ⟨c, a1, a2⟩] at q
        exact onI_1 ⟨ix_nI hk5 (by decide), ih _ _ (by omega) q⟩
      · intro a1
        rw [if_neg (fun w => a1 w.2)] at q
        exact onI_0 (ih _ _ (by omega) q)
    · rename_i c
      rw [if_neg (fun w => c w.1)] at q
      exact ih _ _ (by omega) q
theorem S_stabWeight (hN : M 0 10 = nI N) (hN5 : N ≤ 500) (hd : 0 < d) (q : Q (some (vi (isum (fun a => if hits M x x a then M 3 a else 0) (List.range' 0 N)))) M) : WQ z d j_Mo_stabWeight [vr (some 0), vi x] M Q := by
  refine M_stabWeight_0 ?_
  rw [← nI_0]
  refine L_stabWeight hN hN5 hd N 0 (nI 0) (by omega) ?_
  rw [nI_0, i32_comm, i32_zero]; exact q
end SUMS2
