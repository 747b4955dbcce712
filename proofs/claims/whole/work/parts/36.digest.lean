/-! ===== the digest ===== -/
def crc1 (x : Int32) : Int32 := if x &&& 1 = 1 then ushr x 1 ^^^ (-306674912 : Int32) else ushr x 1
def crcN : Nat → Int32 → Int32
  | 0, x => x
  | n + 1, x => crcN n (crc1 x)
/-- one byte into a digest -/
def absI (g b : Int32) : Int32 := ushr g 8 ^^^ crcN 8 ((g ^^^ b) &&& 255)
section DIG
variable {z : Nat × Nat} {M : MT} {N : Nat} {x y w : Int32}
theorem L_absorbs {d : Nat} {Q : Option AV → MT → Prop} : ∀ (n k : Nat) (v : Int32), k + n = 8 → Q none (up2 M 0 21 (ushr (M 0 21) 8 ^^^ crcN n v)) → WK z d j_Mo_absorbs 13 [some (vr (some 0)), some (vi x), some (vi v), some (vi (nI k))] [] M Q := by
  intro n
  induction n with
  | zero =>
    intro k v hk q
    refine M_absorbs_13 ?_
    have : k = 8 := by omega
    subst this
    rw [if_neg (by decide)]; exact q
  | succ n ih =>
    intro k v hk q
    refine M_absorbs_13 ?_
    rw [show (8 : Int32) = nI 8 from rfl, if_pos (nI_lt (by omega) (by decide)), nI_1]
    have q : Q none (up2 M 0 21 (ushr (M 0 21) 8 ^^^ crcN n (crc1 v))) := q
    unfold crc1 at q
    split
    · rename_i c; rw [if_pos c] at q; exact ih _ _ (by omega) q
    · rename_i c; rw [if_neg c] at q; exact ih _ _ (by omega) q
theorem S_absorbs {d : Nat} {Q : Option AV → MT → Prop} (q : Q none (up2 M 0 21 (absI (M 0 21) x))) : WQ z d j_Mo_absorbs [vr (some 0), vi x] M Q := by
  refine M_absorbs_0 ?_
  rw [show (0 : Int32) = nI 0 from nI_0.symm]
  exact L_absorbs 8 0 _ (by omega) q
/-- the digest of a tree, in the order of a walk from the root -/
def digT (M : MT) : Tr → Int32 → Int32
  | .leaf _, g => g
  | .branch n l r, g => digT M r (digT M l (absI (absI (absI (absI g (nI n - nI n / 256 * 256)) (nI n / 256)) (if M 8 n = 0 then 0 else 1)) (if M 4 n = 1 then 1 else 0)))
theorem S_abs' {d : Nat} {Q : Option AV → MT → Prop} {g : Int32} (hd : 0 < d) (q : Q none (up2 M 0 21 (absI g x))) : 0 < d ∧ WQ z (d - 1) j_Mo_absorbs [vr (some 0), vi x] (up2 M 0 21 g) Q := by
  refine ⟨hd, S_absorbs ?_⟩
  rw [up2_at, up2_same]; exact q
theorem S_visits : ∀ (t : Tr) (d : Nat) (up g : Int32) (Q : Option AV → MT → Prop), Enc M up t → (∀ n ∈ ino t, n < 500) → tht t < d → Q none (up2 M 0 21 (digT M t g)) → WQ z d j_Mo_visits [vr (some 0), vi (rootOf t)] (up2 M 0 21 g) Q := by
  intro t
  induction t with
  | leaf _ =>
    intro d up g Q _ _ _ q
    refine M_visits_0 ?_
    rw [if_pos (show rootOf (.leaf _) = (-1 : Int32) from rfl)]; exact q
  | branch n l r hl hr =>
    intro d up g Q ⟨_, e2, e3, e4, e5⟩ hi hd q
    have hn : n < 500 := hi n (List.mem_append_right _ List.mem_cons_self)
    have hd : 1 + max (tht l) (tht r) < d := hd
    have cl := nI_clamp (n := n) (by omega)
    have ixn : ix (nI n) 500 := ix_nI hn (by decide)
    have u : ∀ {g : Int32} {i a : Nat}, i ≠ 0 → up2 M 0 21 g i a = M i a := fun h => up2_ne (fun q => h q.1)
    have hil : ∀ x ∈ ino l, x < 500 := fun x hx => hi x (List.mem_append_left _ hx)
    have hir : ∀ x ∈ ino r, x < 500 := fun x hx => hi x (List.mem_append_right _ (List.mem_cons_of_mem _ hx))
    show WQ z d j_Mo_visits [vr (some 0), vi (nI n)] (up2 M 0 21 g) Q
    refine M_visits_0 ?_
    rw [if_neg (nI_m1 (by omega)), cl]
    have fin : ∀ (g : Int32), Q none (up2 M 0 21 (digT M r (digT M l g))) → ix (nI n) 500 ∧ 0 < d ∧ WQ z (d - 1) j_Mo_visits [vr (some 0), vi (up2 M 0 21 g 5 n)] (up2 M 0 21 g) (fun _ M22 => ix (nI n) 500 ∧ 0 < d ∧ WQ z (d - 1) j_Mo_visits [vr (some 0), vi (M22 6 n)] M22 (fun _ M25 => Q none M25)) := by
      intro g q
      rw [u (by decide), e2]
      refine ⟨ixn, by omega, hl (d - 1) _ g _ e4 hil (by omega) ⟨ixn, by omega, ?_⟩⟩
      rw [u (by decide), e3]
      exact hr (d - 1) _ _ _ e5 hir (by omega) q
    have q : Q none (up2 M 0 21 (digT M r (digT M l (absI (absI (absI (absI g (nI n - nI n / 256 * 256)) (nI n / 256)) (if M 8 n = 0 then 0 else 1)) (if M 4 n = 1 then 1 else 0))))) := q
    refine S_abs' (by omega) (S_abs' (by omega) ⟨ixn, ?_⟩)
    rw [u (show (8 : Nat) ≠ 0 by decide)]
    split
    · rename_i c
      rw [if_pos c] at q
      refine S_abs' (by omega) ⟨ixn, ?_⟩
      rw [u (show (4 : Nat) ≠ 0 by decide)]
      split
      · rename_i c2; rw [if_pos c2] at q
        refine S_abs' (by omega) ?_
        exact fin _ q
      · rename_i c2; rw [if_neg c2] at q
        refine S_abs' (by omega) ?_
        exact fin _ q
    · rename_i c
      rw [if_neg c] at q
      refine S_abs' (by omega) ⟨ixn, ?_⟩
      rw [u (show (4 : Nat) ≠ 0 by decide)]
      split
      · rename_i c2; rw [if_pos c2] at q
        refine S_abs' (by omega) ?_
        exact fin _ q
      · rename_i c2; rw [if_neg c2] at q
        refine S_abs' (by omega) ?_
        exact fin _ q
end DIG
