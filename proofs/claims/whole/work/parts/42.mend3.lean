def mendM : Nat → MT → Nat → MT
  | 0, M, _ => blk M
  | f + 1, M, n => if M 7 n = -1 then blk M else if M 8 (M 7 n).toNatClampNeg = 0 then blk M else
    if uncM M (M 7 n).toNatClampNeg (M 7 (M 7 n).toNatClampNeg).toNatClampNeg = -1 ∨ M 8 (uncM M (M 7 n).toNatClampNeg (M 7 (M 7 n).toNatClampNeg).toNatClampNeg).toNatClampNeg = 0 then blk (turnM M n (M 7 n).toNatClampNeg (M 7 (M 7 n).toNatClampNeg).toNatClampNeg)
    else mendM f (recM M (M 7 n).toNatClampNeg (uncM M (M 7 n).toNatClampNeg (M 7 (M 7 n).toNatClampNeg).toNatClampNeg).toNatClampNeg (M 7 (M 7 n).toNatClampNeg).toNatClampNeg) (M 7 (M 7 n).toNatClampNeg).toNatClampNeg
section MEND
variable {M : MT} {n p g u f : Nat} {L : List Nat} {cx : Zc}
theorem mendM_A (h : M 7 n = -1) : mendM (f + 1) M n = blk M := by show (if _ then _ else _) = _; rw [if_pos h]
theorem mendM_B (hp : p < 500) (h : M 7 n = nI p) (h8 : M 8 p = 0) : mendM (f + 1) M n = blk M := by
  show (if _ then _ else _) = _
  rw [h, nI_clamp (by omega), if_neg (nI_m1 (by omega)), if_pos h8]
theorem mendM_C (hp : p < 500) (hg : g < 500) (hu : u < 500) (h : M 7 n = nI p) (h8 : ¬ M 8 p = 0) (h7 : M 7 p = nI g) (hun : uncM M p g = nI u) (hu8 : ¬ M 8 u = 0) : mendM (f + 1) M n = mendM f (recM M p u g) g := by
  show (if _ then _ else _) = _
  rw [h, nI_clamp (by omega), if_neg (nI_m1 (by omega)), if_neg h8, h7, nI_clamp (by omega), hun, nI_clamp (by omega), if_neg (fun c => c.elim (nI_m1 (by omega)) hu8)]
theorem mendM_D (hp : p < 500) (hg : g < 500) (h : M 7 n = nI p) (h8 : ¬ M 8 p = 0) (h7 : M 7 p = nI g) (hun : uncM M p g = -1 ∨ ∃ u, u < 500 ∧ uncM M p g = nI u ∧ M 8 u = 0) : mendM (f + 1) M n = blk (turnM M n p g) := by
  show (if _ then _ else _) = _
  rw [h, nI_clamp (by omega), if_neg (nI_m1 (by omega)), if_neg h8, h7, nI_clamp (by omega), if_pos]
  rcases hun with c | ⟨u, hu, c, h⟩
  · exact Or.inl c
  · rw [c, nI_clamp (by omega)]; exact Or.inr h
/-- rows that no turning touches -/
def offT (k i : Nat) : Prop := k ≠ 5 ∧ k ≠ 6 ∧ k ≠ 7 ∧ k ≠ 8 ∧ ¬ (k = 0 ∧ i = 9)
theorem hangM_o {u w : Int32} {k i : Nat} (h : offT k i) : hangM M u w n k i = M k i := by
  obtain ⟨h5, h6, h7, h8, h0⟩ := h
  unfold hangM
  split
  · rw [up2_ne h0, up2_ne (by omega)]
  · split
    · rw [up2_ne (by omega), up2_ne (by omega)]
    · rw [up2_ne (by omega), up2_ne (by omega)]
theorem riseS_o {a b k i : Nat} (ha : a = 5 ∨ a = 6) (hb : b = 5 ∨ b = 6) (h : offT k i) : riseS M a b n p k i = M k i := by
  unfold riseS
  have h' := h
  obtain ⟨h5, h6, h7, h8, h0⟩ := h
  rw [up2_ne (by omega), hangM_o h', up2_ne (by omega)]
  split
  · rw [up2_ne (by omega)]
  · rw [up2_ne (by omega), up2_ne (by omega)]
theorem riseM_o {k i : Nat} (h : offT k i) : riseM M n p k i = M k i := by
  unfold riseM
  split
  · exact riseS_o (Or.inl rfl) (Or.inr rfl) h
  · exact riseS_o (Or.inr rfl) (Or.inl rfl) h
theorem colM_o {k i : Nat} (h : offT k i) : colM M p g k i = M k i := by
  obtain ⟨h5, h6, h7, h8, h0⟩ := h
  unfold colM; rw [up2_ne (by omega), up2_ne (by omega)]
theorem turnM_o {k i : Nat} (h : offT k i) : turnM M n p g k i = M k i := by
  unfold turnM
  split
  · rw [riseM_o h, colM_o h]
  · rw [riseM_o h, colM_o h, riseM_o h]
theorem blk_o {k i : Nat} (h : offT k i) : blk M k i = M k i := by
  obtain ⟨h5, h6, h7, h8, h0⟩ := h
  unfold blk; rw [up2_ne (by omega)]
theorem mendM_o {k i : Nat} (h : offT k i) : ∀ {f : Nat} {M : MT} {n : Nat}, mendM f M n k i = M k i := by
  intro f
  induction f with
  | zero => intro M n; exact blk_o h
  | succ f ih =>
    intro M n
    show (if _ then _ else _ : MT) k i = _
    split
    · exact blk_o h
    · split
      · exact blk_o h
      · split
        · rw [blk_o h, turnM_o h]
        · rw [ih]; unfold recM; obtain ⟨h5, h6, h7, h8, h0⟩ := h; rw [up2_ne (by omega), up2_ne (by omega), up2_ne (by omega)]
theorem up_b01 {a k b j : Nat} {v : Int32} (hv : b01 v) (h : b01 (M b j)) : b01 (up2 M a k v b j) := by
  unfold up2; split
  · exact hv
  · exact h
theorem b01_0 : b01 (0 : Int32) := Or.inl rfl
theorem b01_1 : b01 (1 : Int32) := Or.inr rfl
theorem riseM_8 {i : Nat} : riseM M n p 8 i = M 8 i := by
  have hh : ∀ (X : MT) (u w : Int32), hangM X u w n 8 i = X 8 i := by
    intro X u w; unfold hangM
    split
    · rw [up2_ne (by omega), up2_ne (by omega)]
    · split
      · rw [up2_ne (by omega), up2_ne (by omega)]
      · rw [up2_ne (by omega), up2_ne (by omega)]
  have hs : ∀ a b : Nat, (a = 5 ∨ a = 6) → (b = 5 ∨ b = 6) → riseS M a b n p 8 i = M 8 i := by
    intro a b ha hb
    unfold riseS
    rw [up2_ne (by omega), hh, up2_ne (by omega)]
    split
    · rw [up2_ne (by omega)]
    · rw [up2_ne (by omega), up2_ne (by omega)]
  unfold riseM
  split
  · exact hs 5 6 (Or.inl rfl) (Or.inr rfl)
  · exact hs 6 5 (Or.inr rfl) (Or.inl rfl)
theorem mendM_b : ∀ {f : Nat} {M : MT} {n : Nat}, (∀ i, b01 (M 8 i)) → ∀ i, b01 (mendM f M n 8 i) := by
  have hb : ∀ {M : MT}, (∀ i, b01 (M 8 i)) → ∀ i, b01 (blk M 8 i) := fun h i => up_b01 b01_0 (h i)
  have hc : ∀ {M : MT} {p g : Nat}, (∀ i, b01 (M 8 i)) → ∀ i, b01 (colM M p g 8 i) := fun h i => up_b01 b01_1 (up_b01 b01_0 (h i))
  intro f
  induction f with
  | zero => intro M n h; exact hb h
  | succ f ih =>
    intro M n h i
    show b01 ((if _ then _ else _ : MT) 8 i)
    split
    · exact hb h i
    · split
      · exact hb h i
      · split
        · refine hb (fun i => ?_) i
          unfold turnM
          split
          · rw [riseM_8]; exact hc h i
          · rw [riseM_8]; refine hc (fun i => ?_) i; rw [riseM_8]; exact h i
        · exact ih (fun i => up_b01 b01_1 (up_b01 b01_0 (up_b01 b01_0 (h i)))) i
theorem mend_ok (hL : L ≠ []) (hd : L.Nodup) (hb : ∀ x ∈ L, x < 500) : ∀ {f : Nat} {M : MT} {n : Nat} {cx : Zc}, Zp M n cx L → cx.length < f → ∃ T, FinT (mendM f M n) T L := by
  intro f
  induction f with
  | zero => intro M n cx _ h; omega
  | succ f ih =>
    intro M n cx Z hf
    rcases mend_cases Z hd hb with ⟨h, F⟩ | ⟨p, hp, h, h8, F⟩ | ⟨p, g, u, cx', hp, hg, hu, h, h8, h7, hun, hu8, hc, Z'⟩ | ⟨p, g, hp, hg, h, h8, h7, hun, -, F⟩
    · rw [mendM_A h]; exact (fin_blk F hL hd hb).1
    · rw [mendM_B hp h h8]; exact (fin_blk F hL hd hb).1
    · rw [mendM_C hp hg hu h h8 h7 hun hu8]; exact ih Z' (by omega)
    · rw [mendM_D hp hg h h8 h7 hun]; exact (fin_blk F hL hd hb).1
variable {z : Nat × Nat} {d : Nat} {Q : Option AV → MT → Prop} {x1 x5 : Int32} {l3 l4 l5 l6 : Option AV}
theorem S_mend186 {x2 : Int32} (F : Fin0 M L) (hL : L ≠ []) (hd : L.Nodup) (hb : ∀ x ∈ L, x < 500) (q : Q none (blk M)) : WK z d j_Mo_mends 186 [some (vr (some 0)), some (vi x1), some (vi x2), l3, l4, l5, l6] [] M Q := by
  refine M_mends_186 ⟨?_, q⟩
  obtain ⟨r, hr, e⟩ := (fin_blk F hL hd hb).2
  rw [e]; exact ix_nI hr (by decide)
theorem S_mend163 {x2 : Int32} (hdp : 1 < d) (R : RiseOK L (colM M p g) p g) (F : Fin0 (riseM (colM M p g) p g) L) (hL : L ≠ []) (hd : L.Nodup) (hb : ∀ x ∈ L, x < 500) (q : Q none (blk (riseM (colM M p g) p g))) : WK z d j_Mo_mends 163 [some (vr (some 0)), some (vi x1), some (vi x2), some (vi (nI p)), some (vi (nI g)), some (vi x5), l6] [] M Q := by
  obtain ⟨h1, h2, h3, h4, h5, h6, h7, -⟩ := R
  refine M_mends_163 ⟨ix_nI h1 (by decide), ix_nI h2 (by decide), fun M1 e => ⟨by omega, ?_⟩⟩
  rw [nI_clamp (by omega), nI_clamp (by omega)] at e
  have e : M1 = colM M p g := e
  subst e
  exact S_rises h1 h2 h3 h4 h5 h6 h7 (by omega) (S_mend186 F hL hd hb q)
theorem S_mend116 (hn5 : n < 500) (hp : p < 500) (hg : g < 500) (hdp : 1 < d) (R : if (M 5 p = nI n ↔ M 5 g = nI p) then RiseOK L (colM M p g) p g else RiseOK L M n p ∧ RiseOK L (colM (riseM M n p) n g) n g) (F : Fin0 (turnM M n p g) L) (hL : L ≠ []) (hd : L.Nodup) (hb : ∀ x ∈ L, x < 500) (q : Q none (blk (turnM M n p g))) : WK z d j_Mo_mends 116 [some (vr (some 0)), some (vi x1), some (vi (nI n)), some (vi (nI p)), some (vi (nI g)), some (vi x5), l6] [] M Q := by
  refine M_mends_116 ?_
  rw [nI_clamp (by omega), nI_clamp (by omega)]
  refine ⟨ix_nI hp (by decide), ?_⟩
  unfold turnM at F q
  by_cases c1 : M 5 p = nI n
  · by_cases c2 : M 5 g = nI p
    · have hi : (M 5 p = nI n ↔ M 5 g = nI p) := ⟨fun _ => c2, fun _ => c1⟩
      rw [if_pos hi] at R F q
      rw [if_pos c1, if_pos c2]
      exact ⟨ix_nI hg (by decide), S_mend163 hdp R F hL hd hb q⟩
    · have hi : ¬ (M 5 p = nI n ↔ M 5 g = nI p) := fun c => c2 (c.mp c1)
      rw [if_neg hi] at R F q
      rw [if_pos c1, if_neg c2]
      obtain ⟨⟨h1, h2, h3, h4, h5, h6, h7, -⟩, R2⟩ := R
      exact ⟨ix_nI hg (by decide), by omega, S_rises h1 h2 h3 h4 h5 h6 h7 (by omega) (S_mend163 hdp R2 F hL hd hb q)⟩
  · by_cases c2 : M 5 g = nI p
    · have hi : ¬ (M 5 p = nI n ↔ M 5 g = nI p) := fun c => c1 (c.mpr c2)
      rw [if_neg hi] at R F q
      rw [if_neg c1, if_pos c2]
      obtain ⟨⟨h1, h2, h3, h4, h5, h6, h7, -⟩, R2⟩ := R
      exact ⟨ix_nI hg (by decide), by omega, S_rises h1 h2 h3 h4 h5 h6 h7 (by omega) (S_mend163 hdp R2 F hL hd hb q)⟩
    · have hi : (M 5 p = nI n ↔ M 5 g = nI p) := ⟨fun c => (c1 c).elim, fun c => (c2 c).elim⟩
      rw [if_pos hi] at R F q
      rw [if_neg c1, if_neg c2]
      exact ⟨ix_nI hg (by decide), S_mend163 hdp R F hL hd hb q⟩
theorem S_mends2 (hdp : 1 < d) (hL : L ≠ []) (hd : L.Nodup) (hb : ∀ x ∈ L, x < 500) : ∀ {f : Nat} {M : MT} {n : Nat} {cx : Zc} {l3 l4 l5 l6 : Option AV}, n < 500 → Zp M n cx L → cx.length < f → Q none (mendM f M n) → WK z d j_Mo_mends 2 [some (vr (some 0)), some (vi x1), some (vi (nI n)), l3, l4, l5, l6] [] M Q := by
  intro f
  induction f with
  | zero => intro M n cx _ _ _ _ _ _ h _; omega
  | succ f ih =>
    intro M n cx l3 l4 l5 l6 hn Z hf q
    have xn : ix (nI n) 500 := ix_nI hn (by decide)
    refine M_mends_2 ?_
    rw [nI_clamp (by omega)]
    rcases mend_cases Z hd hb with ⟨h, F⟩ | ⟨p, hp, h, h8, F⟩ | ⟨p, g, u, cx', hp, hg, hu, h, h8, h7, hun, hu8, hc, Z'⟩ | ⟨p, g, hp, hg, h, h8, h7, hun, R, F⟩
    · rw [mendM_A h] at q; rw [if_pos h]; exact ⟨xn, S_mend186 F hL hd hb q⟩
    · rw [mendM_B hp h h8] at q; rw [h, nI_clamp (by omega), if_neg (nI_m1 (by omega)), if_pos h8]
      exact ⟨xn, xn, ix_nI hp (by decide), S_mend186 F hL hd hb q⟩
    · rw [mendM_C hp hg hu h h8 h7 hun hu8] at q
      have xp : ix (nI p) 500 := ix_nI hp (by decide)
      have xg : ix (nI g) 500 := ix_nI hg (by decide)
      have xu : ix (nI u) 500 := ix_nI hu (by decide)
      rw [h, nI_clamp (by omega), if_neg (nI_m1 (by omega)), if_neg h8, h7, nI_clamp (by omega)]
      refine ⟨xn, xn, xp, xn, xp, xg, ?_⟩
      unfold uncM at hun
      split
      · rename_i c
        rw [if_pos c] at hun
        rw [hun, if_neg (nI_m1 (by omega)), nI_clamp (by omega), if_neg hu8]
        refine ⟨xg, xu, xp, xu, fun M5 e5 => ⟨xg, fun M6 e6 => ?_⟩⟩
        rw [e6, e5]; exact ih hg Z' (by omega) q
      · rename_i c
        rw [if_neg c] at hun
        rw [hun, if_neg (nI_m1 (by omega)), nI_clamp (by omega), if_neg hu8]
        refine ⟨xg, xu, xp, xu, fun M5 e5 => ⟨xg, fun M6 e6 => ?_⟩⟩
        rw [e6, e5]; exact ih hg Z' (by omega) q
    · rw [mendM_D hp hg h h8 h7 hun] at q
      have xp : ix (nI p) 500 := ix_nI hp (by decide)
      have xg : ix (nI g) 500 := ix_nI hg (by decide)
      rw [h, nI_clamp (by omega), if_neg (nI_m1 (by omega)), if_neg h8, h7, nI_clamp (by omega)]
      refine ⟨xn, xn, xp, xn, xp, xg, ?_⟩
      unfold uncM at hun
      split
      · rename_i c
        rw [if_pos c] at hun
        refine ⟨xg, ?_⟩
        rcases hun with e | ⟨u, hu, e, h8u⟩
        · rw [if_pos e]; exact S_mend116 hn hp hg hdp R F hL hd hb q
        · rw [e, if_neg (nI_m1 (by omega)), nI_clamp (by omega), if_pos h8u]
          exact ⟨ix_nI hu (by decide), S_mend116 hn hp hg hdp R F hL hd hb q⟩
      · rename_i c
        rw [if_neg c] at hun
        refine ⟨xg, ?_⟩
        rcases hun with e | ⟨u, hu, e, h8u⟩
        · rw [if_pos e]; exact S_mend116 hn hp hg hdp R F hL hd hb q
        · rw [e, if_neg (nI_m1 (by omega)), nI_clamp (by omega), if_pos h8u]
          exact ⟨ix_nI hu (by decide), S_mend116 hn hp hg hdp R F hL hd hb q⟩
theorem S_mends (hdp : 1 < d) (hL : L ≠ []) (hd : L.Nodup) (hb : ∀ x ∈ L, x < 500) (hn : n < 500) (Z : Zp M n cx L) (hf : cx.length < f) (q : Q none (mendM f M n)) : WQ z d j_Mo_mends [vr (some 0), vi (nI n)] M Q :=
  M_mends_0 (S_mends2 hdp hL hd hb hn Z hf q)
end MEND
