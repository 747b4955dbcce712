/-! ===== numbers ===== -/
theorem bm {n : Int} (h1 : -2147483648 ≤ n) (h2 : n < 2147483648) : n.bmod (2 ^ 32) = n := by
  have e : ((2 ^ 32 : Nat) : Int) = 4294967296 := by decide
  unfold Int.bmod
  simp only [e]
  split <;> omega
theorem i_rng (x : Int32) : -2147483648 ≤ x.toInt ∧ x.toInt < 2147483648 := ⟨Int32.le_toInt x, Int32.toInt_lt x⟩
theorem i_lt {x y : Int32} : x < y ↔ x.toInt < y.toInt := Int32.lt_iff_toInt_lt
theorem i_le {x y : Int32} : x ≤ y ↔ x.toInt ≤ y.toInt := Int32.le_iff_toInt_le
theorem i_eq {x y : Int32} : x = y ↔ x.toInt = y.toInt := Int32.toInt_inj.symm
theorem i_add {x y : Int32} (h1 : -2147483648 ≤ x.toInt + y.toInt) (h2 : x.toInt + y.toInt < 2147483648) : (x + y).toInt = x.toInt + y.toInt := by
  rw [Int32.toInt_add]; exact bm h1 h2
theorem i_sub {x y : Int32} (h1 : -2147483648 ≤ x.toInt - y.toInt) (h2 : x.toInt - y.toInt < 2147483648) : (x - y).toInt = x.toInt - y.toInt := by
  rw [Int32.toInt_sub]; exact bm h1 h2
theorem i_mul {x y : Int32} (h1 : -2147483648 ≤ x.toInt * y.toInt) (h2 : x.toInt * y.toInt < 2147483648) : (x * y).toInt = x.toInt * y.toInt := by
  rw [Int32.toInt_mul]; exact bm h1 h2
theorem i_clamp (x : Int32) : x.toNatClampNeg = x.toInt.toNat := rfl
theorem i_1 : (1 : Int32).toInt = 1 := rfl
theorem i_0 : (0 : Int32).toInt = 0 := rfl
theorem ix_iff {x : Int32} {N : Nat} : ix x N ↔ 0 ≤ x.toInt ∧ x.toInt < N := by
  unfold ix
  rw [i_le, i_clamp, i_0]; omega
theorem ix_nI {k N : Nat} (h : k < N) (hN : N < 2 ^ 31) : ix (nI k) N := by
  rw [ix_iff, nI_toInt (by omega)]; omega
theorem ix_mono {x : Int32} {N K : Nat} (h : ix x N) (hN : N ≤ K) : ix x K := by
  rw [ix_iff] at *; omega
theorem ix_ex {x : Int32} {N : Nat} (h : ix x N) (hN : N < 2 ^ 31) : ∃ k, k < N ∧ x = nI k := by
  rw [ix_iff] at h
  refine ⟨x.toInt.toNat, by omega, ?_⟩
  rw [i_eq, nI_toInt (by omega)]; omega
/-! ===== the reference's small questions ===== -/
theorem onI_1 {f g : Int32 → Prop} (h : g 1) : onI (some (vi 1)) fun x => if x = 0 then f x else g x := by
  show if (1 : Int32) = 0 then f 1 else g 1
  rw [if_neg (by decide)]; exact h
theorem onI_0 {f g : Int32 → Prop} (h : f 0) : onI (some (vi 0)) fun x => if x = 0 then f x else g x := by
  show if (0 : Int32) = 0 then f 0 else g 0
  rw [if_pos rfl]; exact h
section SMALL
variable {z : Nat × Nat} {d : Nat} {M : MT} {Q : Option AV → MT → Prop} {N : Nat} {x y : Int32}
theorem S_in {a b : Int32} (q1 : a.toInt ≤ x.toInt ∧ x.toInt ≤ b.toInt → Q (some (vi 1)) M) (q2 : ¬ (a.toInt ≤ x.toInt ∧ x.toInt ≤ b.toInt) → Q (some (vi 0)) M) : WQ z d j_Mo_in [vi x, vi a, vi b] M Q := by
  refine M_in_0 ?_
  split
  · rename_i h; rw [i_lt] at h; exact q2 (fun q => by omega)
  · rename_i h; rw [i_lt] at h
    split
    · rename_i h2; rw [i_lt] at h2; exact q2 (fun q => by omega)
    · rename_i h2; rw [i_lt] at h2; exact q1 (by omega)
theorem S_isInserted (hN : M 0 10 = nI N) (hN5 : N ≤ 500) (hd : 0 < d) (q1 : ix x N → Q (some (vi 1)) M) (q2 : ¬ ix x N → Q (some (vi 0)) M) : WQ z d j_Mo_isInserted [vr (some 0), vi x] M Q := by
  have e : (M 0 10 - 1).toInt = (N : Int) - 1 := by
    have h := nI_toInt (n := N) (by omega)
    rw [hN, i_sub (by rw [h, i_1]; omega) (by rw [h, i_1]; omega), h, i_1]
  refine M_isInserted_0 ⟨hd, S_in ?_ ?_⟩
  · intro h; rw [e, i_0] at h; exact ⟨Or.inr rfl, q1 (ix_iff.mpr (by omega))⟩
  · intro h; rw [e, i_0] at h; exact ⟨Or.inl rfl, q2 (fun q => h (by rw [ix_iff] at q; omega))⟩
theorem S_isLive (hN : M 0 10 = nI N) (hN5 : N ≤ 500) (hd : 1 < d) (q1 : ix x N → M 4 x.toNatClampNeg = 0 → Q (some (vi 1)) M) (q2 : ¬ (ix x N ∧ M 4 x.toNatClampNeg = 0) → Q (some (vi 0)) M) : WQ z d j_Mo_isLive [vr (some 0), vi x] M Q := by
  refine M_isLive_0 ⟨by omega, S_isInserted hN hN5 (by omega) ?_ ?_⟩
  · intro h
    refine onI_1 ⟨ix_mono h hN5, ?_⟩
    split
    · rename_i e; exact q1 h e
    · rename_i e; exact q2 (fun q => e q.2)
  · intro h
    refine onI_0 ?_
    exact q2 (fun q => h q.1)
theorem S_isInTree (hN : M 0 10 = nI N) (hN5 : N ≤ 500) (hd : 1 < d) (q1 : ix x N → M 4 x.toNatClampNeg < 2 → Q (some (vi 1)) M) (q2 : ¬ (ix x N ∧ M 4 x.toNatClampNeg < 2) → Q (some (vi 0)) M) : WQ z d j_Mo_isInTree [vr (some 0), vi x] M Q := by
  refine M_isInTree_0 ⟨by omega, S_isInserted hN hN5 (by omega) ?_ ?_⟩
  · intro h
    refine onI_1 ⟨ix_mono h hN5, ?_⟩
    split
    · rename_i e; exact q1 h e
    · rename_i e; exact q2 (fun q => e q.2)
  · intro h
    refine onI_0 ?_
    exact q2 (fun q => h q.1)
/-- the order of the keys -/
def less (M : MT) (a b : Nat) : Prop := (M 1 a).toInt < (M 1 b).toInt ∨ (M 1 a = M 1 b ∧ ((M 2 a).toInt < (M 2 b).toInt ∨ (M 2 a = M 2 b ∧ a < b)))
theorem S_isLess {a b : Nat} (ha : a < 500) (hb : b < 500) (q1 : less M a b → Q (some (vi 1)) M) (q2 : ¬ less M a b → Q (some (vi 0)) M) : WQ z d j_Mo_isLess [vr (some 0), vi (nI a), vi (nI b)] M Q := by
  have xa : ix (nI a) 500 := ix_nI ha (by decide)
  have xb : ix (nI b) 500 := ix_nI hb (by decide)
  have ca : (nI a).toNatClampNeg = a := nI_clamp (by omega)
  have cb : (nI b).toNatClampNeg = b := nI_clamp (by omega)
  have ta := nI_toInt (n := a) (by omega)
  have tb := nI_toInt (n := b) (by omega)
  refine M_isLess_0 ⟨xa, xb, ?_⟩
  rw [ca, cb]
  split
  · rename_i e1
    refine ⟨xa, xb, ?_⟩
    split
    · rename_i e2
      split
      · rename_i e3; rw [i_lt, ta, tb] at e3; exact q1 (Or.inr ⟨e1, Or.inr ⟨e2, by omega⟩⟩)
      · rename_i e3; rw [i_lt, ta, tb] at e3
        refine q2 ?_
        rintro (q | ⟨-, q | ⟨-, q⟩⟩)
        · rw [e1] at q; omega
        · rw [e2] at q; omega
        · omega
    · rename_i e2
      refine ⟨xa, xb, ?_⟩
      split
      · rename_i e3; rw [i_lt] at e3; exact q1 (Or.inr ⟨e1, Or.inl e3⟩)
      · rename_i e3; rw [i_lt] at e3
        refine q2 ?_
        rintro (q | ⟨-, q | ⟨q, -⟩⟩)
        · rw [e1] at q; omega
        · omega
        · exact e2 q
  · rename_i e1
    refine ⟨xa, xb, ?_⟩
    split
    · rename_i e3; rw [i_lt] at e3; exact q1 (Or.inl e3)
    · rename_i e3; rw [i_lt] at e3
      refine q2 ?_
      rintro (q | ⟨q, -⟩)
      · omega
      · exact e1 q
theorem S_overlaps {a : Nat} {f t : Int32} (ha : a < 500) (q1 : (M 1 a).toInt ≤ t.toInt → f.toInt ≤ (M 2 a).toInt → Q (some (vi 1)) M) (q2 : ¬ ((M 1 a).toInt ≤ t.toInt ∧ f.toInt ≤ (M 2 a).toInt) → Q (some (vi 0)) M) : WQ z d j_Mo_overlaps [vr (some 0), vi (nI a), vi f, vi t] M Q := by
  have xa : ix (nI a) 500 := ix_nI ha (by decide)
  have ca : (nI a).toNatClampNeg = a := nI_clamp (by omega)
  refine M_overlaps_0 ⟨xa, ?_⟩
  rw [ca]
  split
  · rename_i e; rw [i_lt] at e; exact q2 (fun q => by omega)
  · rename_i e; rw [i_lt] at e
    refine ⟨xa, ?_⟩
    split
    · rename_i e2; rw [i_lt] at e2; exact q2 (fun q => by omega)
    · rename_i e2; rw [i_lt] at e2; exact q1 (by omega) (by omega)
end SMALL
