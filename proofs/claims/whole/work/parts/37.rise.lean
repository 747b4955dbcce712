/-! ===== turning: the reference's rises and hangs as functions of its memory ===== -/
/-- an id or none -/
def pt (x : Int32) : Prop := x = -1 ∨ ix x 500
/-- 'is' (an id) takes the place of 'was' under 'under' -/
def hangM (M : MT) (under was : Int32) (n : Nat) : MT :=
  if under = -1 then up2 (up2 M 7 n under) 0 9 (nI n)
  else if M 5 under.toNatClampNeg = was then up2 (up2 M 7 n under) 5 under.toNatClampNeg (nI n)
  else up2 (up2 M 7 n under) 6 under.toNatClampNeg (nI n)
/-- n, in row a under p, takes p's place; b is the other row -/
def riseS (M : MT) (a b n p : Nat) : MT :=
  up2 (hangM (up2 (if M b n = -1 then up2 M a p (M b n) else up2 (up2 M a p (M b n)) 7 (M b n).toNatClampNeg (nI p)) b n (nI p)) (M 7 p) (nI p) n) 7 p (nI n)
def riseM (M : MT) (n p : Nat) : MT := if M 5 p = nI n then riseS M 5 6 n p else riseS M 6 5 n p
section RISE
variable {z : Nat × Nat} {d : Nat} {M : MT} {Q : Option AV → MT → Prop}
theorem S_hangs {u was : Int32} {n : Nat} (hn : n < 500) (hu : pt u) (q : Q none (hangM M u was n)) : WQ z d j_Mo_hangs [vr (some 0), vi u, vi was, vi (nI n)] M Q := by
  refine M_hangs_0 ?_
  rw [if_neg (nI_m1 (by omega)), nI_clamp (by omega)]
  refine ⟨ix_nI hn (by decide), ?_⟩
  unfold hangM at q
  rcases hu with rfl | hu
  · rw [if_pos rfl] at q ⊢; exact q
  · have hne : ¬ u = -1 := by
      intro e; rw [ix_iff, e] at hu
      have : (-1 : Int32).toInt = -1 := rfl
      omega
    rw [if_neg hne] at q ⊢
    refine ⟨hu, ?_⟩
    rw [up2_ne (by omega)]
    split
    · rename_i c; rw [if_pos c] at q; exact ⟨hu, q⟩
    · rename_i c; rw [if_neg c] at q; exact ⟨hu, q⟩
theorem S_rises {n p : Nat} (hn : n < 500) (hp : p < 500) (hnp : n ≠ p) (hM : M 7 n = nI p) (h5 : pt (M 5 n)) (h6 : pt (M 6 n)) (h7 : pt (M 7 p)) (hd : 0 < d) (q : Q none (riseM M n p)) : WQ z d j_Mo_rises [vr (some 0), vi (nI n)] M Q := by
  have cn := nI_clamp (n := n) (by omega)
  have cp := nI_clamp (n := p) (by omega)
  have xn : ix (nI n) 500 := ix_nI hn (by decide)
  have xp : ix (nI p) 500 := ix_nI hp (by decide)
  refine M_rises_0 ?_
  rw [cn, hM, cp]
  refine ⟨xn, xp, xp, ?_⟩
  unfold riseM at q
  split
  · rename_i c
    rw [if_pos c] at q
    refine ⟨xn, xp, fun M10 e => ⟨xn, ?_⟩⟩
    have e6 : M10 6 n = M 6 n := by rw [e, up2_ne (by omega)]
    unfold riseS at q
    rw [e6]
    split
    · rename_i c2
      rw [if_pos c2] at q
      refine ⟨xn, hd, S_hangs hn h7 ⟨xp, ?_⟩⟩
      rw [e]; exact q
    · rename_i c2
      rw [if_neg c2] at q
      have x6 : ix (M 6 n) 500 := h6.resolve_left c2
      refine ⟨xn, x6, fun M14 e2 => ⟨xn, hd, S_hangs hn h7 ⟨xp, ?_⟩⟩⟩
      rw [e2, e]; exact q
  · rename_i c
    rw [if_neg c] at q
    refine ⟨xn, xp, fun M10 e => ⟨xn, ?_⟩⟩
    have e6 : M10 5 n = M 5 n := by rw [e, up2_ne (by omega)]
    unfold riseS at q
    rw [e6]
    split
    · rename_i c2
      rw [if_pos c2] at q
      refine ⟨xn, hd, S_hangs hn h7 ⟨xp, ?_⟩⟩
      rw [e]; exact q
    · rename_i c2
      rw [if_neg c2] at q
      have x6 : ix (M 5 n) 500 := h5.resolve_left c2
      refine ⟨xn, x6, fun M14 e2 => ⟨xn, hd, S_hangs hn h7 ⟨xp, ?_⟩⟩⟩
      rw [e2, e]; exact q
end RISE
