theorem isum_app {f : Nat → Int32} {l r : List Nat} : isum f (l ++ r) = isum f l + isum f r := by
  induction l with
  | nil => show isum f r = 0 + isum f r; rw [i32_comm, i32_zero]
  | cons x l ih => show f x + isum f (l ++ r) = f x + isum f l + isum f r; rw [ih, i32_assoc]
theorem nI_m1 {n : Nat} (h : n < 2 ^ 31) : ¬ nI n = (-1 : Int32) := by
  rw [i_eq, nI_toInt h, show (-1 : Int32).toInt = -1 from rfl]; omega
theorem nI_max {a b : Nat} (ha : a < 2 ^ 31) (hb : b < 2 ^ 31) : (if nI a < nI b then nI b else nI a) = nI (max a b) := by
  by_cases c : a < b
  · rw [if_pos (nI_lt c hb)]; congr 1; omega
  · rw [if_neg (nI_nlt (by omega) ha)]; congr 1; omega
section TREES
variable {z : Nat × Nat} {M : MT} {N : Nat} {x y w : Int32}
theorem tht_le (t : Tr) : tht t ≤ tsz t := by
  induction t with
  | leaf _ => exact Nat.le_refl _
  | branch n l r hl hr => show 1 + max (tht l) (tht r) ≤ tsz l + tsz r + 1; omega
theorem S_heightOf : ∀ (t : Tr) (d : Nat) (up : Int32) (Q : Option AV → MT → Prop), Enc M up t → (∀ n ∈ ino t, n < 500) → tht t ≤ d → tsz t ≤ 500 → Q (some (vi (nI (tht t)))) M → WQ z d j_Mo_heightOf [vr (some 0), vi (rootOf t)] M Q := by
  intro t
  induction t with
  | leaf _ =>
    intro d up Q _ _ _ _ q
    refine M_heightOf_0 ?_
    rw [if_pos (show rootOf (.leaf _) = (-1 : Int32) from rfl), ← nI_0]; exact q
  | branch n l r hl hr =>
    intro d up Q ⟨_, e2, e3, e4, e5⟩ hi hd hz q
    have hn : n < 500 := hi n (List.mem_append_right _ List.mem_cons_self)
    have hd : 1 + max (tht l) (tht r) ≤ d := hd
    have hz : tsz l + tsz r + 1 ≤ 500 := hz
    have l1 := tht_le l
    have l2 := tht_le r
    refine M_heightOf_0 ?_
    show if nI n = (-1 : Int32) then _ else _
    rw [if_neg (nI_m1 (by omega))]
    show ix (nI n) 500 ∧ 0 < d ∧ WQ z (d - 1) j_Mo_heightOf [vr (some 0), vi (M 5 (nI n).toNatClampNeg)] M _
    rw [nI_clamp (by omega), e2]
    refine ⟨ix_nI hn (by decide), by omega, hl (d - 1) _ _ e4 (fun x hx => hi x (List.mem_append_left _ hx)) (by omega) (by omega) ?_⟩
    show ix (nI n) 500 ∧ 0 < d ∧ WQ z (d - 1) j_Mo_heightOf [vr (some 0), vi (M 6 (nI n).toNatClampNeg)] M _
    rw [nI_clamp (by omega), e3]
    refine ⟨ix_nI hn (by decide), by omega, hr (d - 1) _ _ e5 (fun x hx => hi x (List.mem_append_right _ (List.mem_cons_of_mem _ hx))) (by omega) (by omega) ?_⟩
    show Q (some (vi ((1 : Int32) + (if nI (tht l) < nI (tht r) then nI (tht r) else nI (tht l))))) M
    rw [nI_max (by omega) (by omega), i32_comm, nI_1, Nat.add_comm]; exact q
theorem S_sizeOf : ∀ (t : Tr) (d : Nat) (up : Int32) (Q : Option AV → MT → Prop), Enc M up t → (∀ n ∈ ino t, n < 500) → tht t ≤ d → Q (some (vi (isum (fun a => if M 4 a = 0 then 1 else 0) (ino t)))) M → WQ z d j_Mo_sizeOf [vr (some 0), vi (rootOf t)] M Q := by
  intro t
  induction t with
  | leaf _ =>
    intro d up Q _ _ _ q
    refine M_sizeOf_0 ?_
    rw [if_pos (show rootOf (.leaf _) = (-1 : Int32) from rfl)]; exact q
  | branch n l r hl hr =>
    intro d up Q ⟨_, e2, e3, e4, e5⟩ hi hd q
    have hn : n < 500 := hi n (List.mem_append_right _ List.mem_cons_self)
    have hd : 1 + max (tht l) (tht r) ≤ d := hd
    have eq : isum (fun a => if M 4 a = 0 then (1 : Int32) else 0) (ino l ++ n :: ino r) = ((if M 4 n = 0 then 1 else 0) + isum (fun a => if M 4 a = 0 then 1 else 0) (ino l)) + isum (fun a => if M 4 a = 0 then 1 else 0) (ino r) := by
      rw [isum_app]
      show _ + ((if M 4 n = 0 then (1 : Int32) else 0) + _) = _
      rw [← i32_assoc, i32_comm (isum _ (ino l))]
    have q : Q (some (vi (isum (fun a => if M 4 a = 0 then (1 : Int32) else 0) (ino l ++ n :: ino r)))) M := q
    rw [eq] at q
    refine M_sizeOf_0 ?_
    show if nI n = (-1 : Int32) then _ else _
    rw [if_neg (nI_m1 (by omega))]
    have cl := nI_clamp (n := n) (by omega)
    refine ⟨ix_nI hn (by decide), ?_⟩
    show if M 4 (nI n).toNatClampNeg = (0 : Int32) then _ else _
    rw [cl]
    split
    · rename_i c
      rw [if_pos c] at q
      show ix (nI n) 500 ∧ 0 < d ∧ WQ z (d - 1) j_Mo_sizeOf [vr (some 0), vi (M 5 (nI n).toNatClampNeg)] M _
      rw [cl, e2]
      refine ⟨ix_nI hn (by decide), by omega, hl (d - 1) _ _ e4 (fun x hx => hi x (List.mem_append_left _ hx)) (by omega) ?_⟩
      show ix (nI n) 500 ∧ 0 < d ∧ WQ z (d - 1) j_Mo_sizeOf [vr (some 0), vi (M 6 (nI n).toNatClampNeg)] M _
      rw [cl, e3]
      exact ⟨ix_nI hn (by decide), by omega, hr (d - 1) _ _ e5 (fun x hx => hi x (List.mem_append_right _ (List.mem_cons_of_mem _ hx))) (by omega) q⟩
    · rename_i c
      rw [if_neg c] at q
      show ix (nI n) 500 ∧ 0 < d ∧ WQ z (d - 1) j_Mo_sizeOf [vr (some 0), vi (M 5 (nI n).toNatClampNeg)] M _
      rw [cl, e2]
      refine ⟨ix_nI hn (by decide), by omega, hl (d - 1) _ _ e4 (fun x hx => hi x (List.mem_append_left _ hx)) (by omega) ?_⟩
      show ix (nI n) 500 ∧ 0 < d ∧ WQ z (d - 1) j_Mo_sizeOf [vr (some 0), vi (M 6 (nI n).toNatClampNeg)] M _
      rw [cl, e3]
      exact ⟨ix_nI hn (by decide), by omega, hr (d - 1) _ _ e5 (fun x hx => hi x (List.mem_append_right _ (List.mem_cons_of_mem _ hx))) (by omega) q⟩
end TREES
