/-! ===== the reference: what asks of one id ===== -/
theorem up2_same {M : MT} {a k : Nat} {v w : Int32} : up2 (up2 M a k v) a k w = up2 M a k w := by
  funext b j; unfold up2; split <;> rfl
theorem up2_ne {M : MT} {a k b j : Nat} {v : Int32} (h : ¬ (b = a ∧ j = k)) : up2 M a k v b j = M b j := by
  unfold up2; rw [if_neg h]
theorem up2_at {M : MT} {a k : Nat} {v : Int32} : up2 M a k v a k = v := by
  unfold up2; rw [if_pos ⟨rfl, rfl⟩]
/-- the reference's number of an exception -/
abbrev thn (M : MT) (k : Int32) : MT := up2 M 0 0 k
section ONE
variable {z : Nat × Nat} {d : Nat} {M : MT} {Q : Option AV → MT → Prop} {N : Nat} {x y : Int32}
theorem S_fails {k : Int32} (q : Q (some (vi 0)) (thn M k)) : WQ z d j_Mo_fails [vr (some 0), vi k] (thn M 0) Q := by
  refine M_fails_0 ?_
  rw [up2_same]; exact q
theorem S_fails' {k : Int32} {f : Int32 → MT → Prop} (hd : 0 < d) (q : f 0 (thn M k)) : 0 < d ∧ WQ z (d - 1) j_Mo_fails [vr (some 0), vi k] (thn M 0) (fun v M1 => onI v fun x => f x M1) := ⟨hd, S_fails q⟩
theorem S_state (hN : M 0 10 = nI N) (hN5 : N ≤ 500) (hd : 2 < d) (q1 : ix x N → Q (some (vi (M 4 x.toNatClampNeg))) (thn M 0)) (q2 : ¬ ix x N → Q (some (vi 0)) (thn M 1)) : WQ z d j_Mo_state [vr (some 0), vi x] M Q := by
  refine M_state_0 ⟨by omega, S_isInserted (N := N) (by rw [up2_ne (by decide)]; exact hN) hN5 (by omega) ?_ ?_⟩
  · intro h; exact onI_1 ⟨ix_mono h hN5, by rw [up2_ne (by omega)]; exact q1 h⟩
  · intro h; exact onI_0 (S_fails' (by omega) (q2 h))
theorem S_low (hN : M 0 10 = nI N) (hN5 : N ≤ 500) (hd : 2 < d) (q1 : ix x N → M 4 x.toNatClampNeg < 2 → Q (some (vi (M 1 x.toNatClampNeg))) (thn M 0)) (q2 : ¬ (ix x N ∧ M 4 x.toNatClampNeg < 2) → Q (some (vi 0)) (thn M 1)) : WQ z d j_Mo_low [vr (some 0), vi x] M Q := by
  refine M_low_0 ⟨by omega, S_isInTree (N := N) (by rw [up2_ne (by decide)]; exact hN) hN5 (by omega) ?_ ?_⟩
  · intro h e; rw [up2_ne (by omega)] at e; exact onI_1 ⟨ix_mono h hN5, by rw [up2_ne (by omega)]; exact q1 h e⟩
  · intro h; rw [up2_ne (by omega)] at h; exact onI_0 (S_fails' (by omega) (q2 h))
theorem S_high (hN : M 0 10 = nI N) (hN5 : N ≤ 500) (hd : 2 < d) (q1 : ix x N → M 4 x.toNatClampNeg < 2 → Q (some (vi (M 2 x.toNatClampNeg))) (thn M 0)) (q2 : ¬ (ix x N ∧ M 4 x.toNatClampNeg < 2) → Q (some (vi 0)) (thn M 1)) : WQ z d j_Mo_high [vr (some 0), vi x] M Q := by
  refine M_high_0 ⟨by omega, S_isInTree (N := N) (by rw [up2_ne (by decide)]; exact hN) hN5 (by omega) ?_ ?_⟩
  · intro h e; rw [up2_ne (by omega)] at e; exact onI_1 ⟨ix_mono h hN5, by rw [up2_ne (by omega)]; exact q1 h e⟩
  · intro h; rw [up2_ne (by omega)] at h; exact onI_0 (S_fails' (by omega) (q2 h))
theorem S_weight (hN : M 0 10 = nI N) (hN5 : N ≤ 500) (hd : 2 < d) (q1 : ix x N → M 4 x.toNatClampNeg < 2 → Q (some (vi (M 3 x.toNatClampNeg))) (thn M 0)) (q2 : ¬ (ix x N ∧ M 4 x.toNatClampNeg < 2) → Q (some (vi 0)) (thn M 1)) : WQ z d j_Mo_weight [vr (some 0), vi x] M Q := by
  refine M_weight_0 ⟨by omega, S_isInTree (N := N) (by rw [up2_ne (by decide)]; exact hN) hN5 (by omega) ?_ ?_⟩
  · intro h e; rw [up2_ne (by omega)] at e; exact onI_1 ⟨ix_mono h hN5, by rw [up2_ne (by omega)]; exact q1 h e⟩
  · intro h; rw [up2_ne (by omega)] at h; exact onI_0 (S_fails' (by omega) (q2 h))
theorem S_parent (hN : M 0 10 = nI N) (hN5 : N ≤ 500) (hd : 2 < d) (q1 : ix x N → M 4 x.toNatClampNeg < 2 → Q (some (vi (M 7 x.toNatClampNeg))) (thn M 0)) (q2 : ¬ (ix x N ∧ M 4 x.toNatClampNeg < 2) → Q (some (vi 0)) (thn M 1)) : WQ z d j_Mo_parent [vr (some 0), vi x] M Q := by
  refine M_parent_0 ⟨by omega, S_isInTree (N := N) (by rw [up2_ne (by decide)]; exact hN) hN5 (by omega) ?_ ?_⟩
  · intro h e; rw [up2_ne (by omega)] at e; exact onI_1 ⟨ix_mono h hN5, by rw [up2_ne (by omega)]; exact q1 h e⟩
  · intro h; rw [up2_ne (by omega)] at h; exact onI_0 (S_fails' (by omega) (q2 h))
theorem S_child (hN : M 0 10 = nI N) (hN5 : N ≤ 500) (hd : 2 < d) (q1 : ix x N → M 4 x.toNatClampNeg < 2 → Q (some (vi (if y = 0 then M 5 x.toNatClampNeg else M 6 x.toNatClampNeg))) (thn M 0)) (q2 : ¬ (ix x N ∧ M 4 x.toNatClampNeg < 2) → Q (some (vi 0)) (thn M 1)) : WQ z d j_Mo_child [vr (some 0), vi x, vi y] M Q := by
  refine M_child_0 ⟨by omega, S_isInTree (N := N) (by rw [up2_ne (by decide)]; exact hN) hN5 (by omega) ?_ ?_⟩
  · intro h e; rw [up2_ne (by omega)] at e
    have q := q1 h e
    refine onI_1 ?_
    split
    · rename_i c; rw [if_pos c] at q; exact ⟨ix_mono h hN5, by rw [up2_ne (by omega)]; exact q⟩
    · rename_i c; rw [if_neg c] at q; exact ⟨ix_mono h hN5, by rw [up2_ne (by omega)]; exact q⟩
  · intro h; rw [up2_ne (by omega)] at h; exact onI_0 (S_fails' (by omega) (q2 h))
theorem S_isRed (hN : M 0 10 = nI N) (hN5 : N ≤ 500) (hb : ∀ k, b01 (M 8 k)) (hd : 2 < d) (q1 : ix x N → M 4 x.toNatClampNeg < 2 → Q (some (vi (M 8 x.toNatClampNeg))) (thn M 0)) (q2 : ¬ (ix x N ∧ M 4 x.toNatClampNeg < 2) → Q (some (vi 0)) (thn M 1)) : WQ z d j_Mo_isRed [vr (some 0), vi x] M Q := by
  refine M_isRed_0 ⟨by omega, S_isInTree (N := N) (by rw [up2_ne (by decide)]; exact hN) hN5 (by omega) ?_ ?_⟩
  · intro h e; rw [up2_ne (by omega)] at e; exact onI_1 ⟨ix_mono h hN5, by rw [up2_ne (by omega)]; exact hb _, by rw [up2_ne (by omega)]; exact q1 h e⟩
  · intro h; rw [up2_ne (by omega)] at h
    refine onI_0 (S_fails' (f := fun x8 M5 => if (0 : Int32) < x8 then (Q (some (vi (1 : Int32))) M5) else (Q (some (vi (0 : Int32))) M5)) (by omega) ?_)
    show if (0 : Int32) < 0 then _ else Q (some (vi (0 : Int32))) (thn M 1)
    rw [if_neg (by decide)]; exact q2 h
theorem S_setRebuildPercentage (hd : 1 < d) (q1 : 10 ≤ x.toInt ∧ x.toInt ≤ 100 → Q (some (vi (M 0 13))) (up2 (thn M 0) 0 13 x)) (q2 : ¬ (10 ≤ x.toInt ∧ x.toInt ≤ 100) → Q (some (vi 0)) (thn M 1)) : WQ z d j_Mo_setRebuildPercentage [vr (some 0), vi x] M Q := by
  refine M_setRebuildPercentage_0 ⟨by omega, S_in ?_ ?_⟩
  · intro h; exact onI_1 (by rw [up2_ne (by decide)]; exact q1 h)
  · intro h; exact onI_0 (S_fails' (by omega) (q2 h))
theorem S_size (hd : 0 < d) (q : Q (some (vi (M 0 11 - M 0 12))) M) : WQ z d j_Mo_size [vr (some 0)] M Q := M_size_0 ⟨hd, M_live_0 q⟩
end ONE
