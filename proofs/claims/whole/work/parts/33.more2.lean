theorem thn_f {M : MT} {k : Int32} {j : Nat} (h : j ≠ 0) : thn M k 0 j = M 0 j := up2_ne (fun q => h q.2)
section MORE2
variable {z : Nat × Nat} {d : Nat} {M : MT} {Q : Option AV → MT → Prop} {N : Nat} {x y w : Int32}
theorem wAdd_0 : wAdd M x y w 0 = M := by
  funext i a; unfold wAdd; rw [if_neg (fun q => by have := q.2.1; omega)]
theorem S_addWeight (hN : M 0 10 = nI N) (hN5 : N ≤ 500) (hd : 1 < d) (q1 : x.toInt ≤ y.toInt → -1000 ≤ w.toInt → w.toInt ≤ 1000 → Q (some (vi (isum (fun a => if M 4 a = 0 ∧ x.toInt ≤ (M 1 a).toInt ∧ (M 1 a).toInt ≤ y.toInt then 1 else 0) (List.range' 0 N)))) (wAdd (thn M 0) x y w N)) (q2 : ¬ (x.toInt ≤ y.toInt ∧ -1000 ≤ w.toInt ∧ w.toInt ≤ 1000) → Q (some (vi 0)) (thn M 1)) : WQ z d j_Mo_addWeight [vr (some 0), vi x, vi y, vi w] M Q := by
  refine M_addWeight_0 ?_
  split
  · rename_i c; rw [i_lt] at c; exact S_fails' (by omega) (q2 (fun u => by omega))
  · rename_i c; rw [i_lt] at c
    refine ⟨by omega, S_in ?_ ?_⟩
    · intro h
      refine onI_1 ?_
      have e0 : ∀ (R : MT → Prop), R (wAdd (thn M 0) x y w 0) → R (thn M 0) := fun R r => by rw [wAdd_0] at r; exact r
      refine e0 (fun M9 => WK z d j_Mo_addWeight 35 [some (vr (some 0)), some (vi x), some (vi y), some (vi w), some (vi (0 : Int32)), some (vi (0 : Int32))] [] M9 Q) ?_
      show WK z d j_Mo_addWeight 35 [some (vr (some 0)), some (vi x), some (vi y), some (vi w), some (vi (0 : Int32)), some (vi (0 : Int32))] [] (wAdd (thn M 0) x y w 0) Q
      have h5 := L_addWeight (z := z) (d := d) (Q := Q) (M := thn M 0) (x := x) (y := y) (w := w) (N := N) (by rw [thn_f (by decide)]; exact hN) hN5 (by omega) N 0 0 (by omega)
      rw [nI_0] at h5
      refine h5 ?_
      rw [i32_comm, i32_zero]
      have e2 : (fun a => if (thn M 0) 4 a = 0 ∧ x.toInt ≤ ((thn M 0) 1 a).toInt ∧ ((thn M 0) 1 a).toInt ≤ y.toInt then (1 : Int32) else 0) = fun a => if M 4 a = 0 ∧ x.toInt ≤ (M 1 a).toInt ∧ (M 1 a).toInt ≤ y.toInt then 1 else 0 := by
        funext a; rw [thn_ne (by decide), thn_ne (by decide)]
      rw [e2]; exact q1 (by omega) h.1 h.2
    · intro h
      exact onI_0 (S_fails' (by omega) (q2 (fun u => h u.2)))
theorem S_select {n : Nat} (hN : M 0 10 = nI N) (hN5 : N ≤ 500) (hn : M 0 11 - M 0 12 = nI n) (hn5 : n ≤ 500) (hd : 1 < d) (q1 : ix x n → ∀ (l : List Nat) (M' : MT), LiveRow M N l → RowIs M' l → PRow (thn M 0) M' → Q (some (vi (M' 9 x.toNatClampNeg))) M') (q2 : ¬ ix x n → Q (some (vi 0)) (thn M 1)) : WQ z d j_Mo_select [vr (some 0), vi x] M Q := by
  have e : (nI n - 1).toInt = (n : Int) - 1 := by
    have h := nI_toInt (n := n) (by omega)
    rw [i_sub (by rw [h, i_1]; omega) (by rw [h, i_1]; omega), h, i_1]
  refine M_select_0 ⟨by omega, M_live_0 ?_⟩
  show 0 < d ∧ WQ z (d - 1) j_Mo_in [vi x, vi (0 : Int32), vi ((thn M 0) 0 11 - (thn M 0) 0 12 - (1 : Int32))] (thn M 0) _
  rw [thn_f (by decide), thn_f (by decide), hn]
  refine ⟨by omega, S_in ?_ ?_⟩
  · intro h
    rw [e, i_0] at h
    refine onI_1 ⟨by omega, S_layRow (N := N) (by rw [thn_f (by decide)]; exact hN) hN5 (by omega) fun l M' hp h1 h2 h3 => ?_⟩
    have hx : ix x n := ix_iff.mpr (by omega)
    exact ⟨ix_mono hx hn5, q1 hx l M' (thn_live h3) h1 hp⟩
  · intro h
    rw [e, i_0] at h
    exact onI_0 (S_fails' (by omega) (q2 (fun u => h (by rw [ix_iff] at u; omega))))
end MORE2
