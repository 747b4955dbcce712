/-! ===== adding filters: the reference ===== -/
def adM (M : MT) (f : Nat) (k a b c : Int32) : MT := up2 (up2 (up2 (up2 (up2 M 14 f k) 15 f a) 16 f b) 17 f c) 0 24 (nI (f + 1))
theorem thn_thn {M : MT} {a b : Int32} : thn (thn M a) b = thn M b := up2_same
theorem adM_ne {M : MT} {f r i : Nat} {k a b c : Int32} (h : r < 14 ∨ 17 < r ∨ i ≠ f) (h0 : ¬ (r = 0 ∧ i = 24)) : adM M f k a b c r i = M r i := by
  unfold adM
  rw [up2_ne h0, up2_ne (by omega), up2_ne (by omega), up2_ne (by omega), up2_ne (by omega)]
theorem adM_14 {M : MT} {f : Nat} {k a b c : Int32} : adM M f k a b c 14 f = k := by unfold adM; rw [up2_ne (by omega), up2_ne (by omega), up2_ne (by omega), up2_ne (by omega), up2_at]
theorem adM_15 {M : MT} {f : Nat} {k a b c : Int32} : adM M f k a b c 15 f = a := by unfold adM; rw [up2_ne (by omega), up2_ne (by omega), up2_ne (by omega), up2_at]
theorem adM_16 {M : MT} {f : Nat} {k a b c : Int32} : adM M f k a b c 16 f = b := by unfold adM; rw [up2_ne (by omega), up2_ne (by omega), up2_at]
theorem adM_17 {M : MT} {f : Nat} {k a b c : Int32} : adM M f k a b c 17 f = c := by unfold adM; rw [up2_ne (by omega), up2_at]
section ADDR
variable {z : Nat × Nat} {d : Nat} {M M' : MT} {Q : Option AV → MT → Prop} {T : Tr} {N : Nat} {W : Int} {x y u : Int32} {FL FL' : Nat → List SP} {nf f : Nat} {L : List SP}
theorem RF.loc (h : RF M FL f) (e : FL' f = FL f) (E : ∀ a, 14 ≤ a → a ≤ 18 → M' a f = M a f) (E2 : ∀ a k, 19 ≤ a → a ≤ 21 → k < 60 → M' a (60 * f + k) = M a (60 * f + k)) : RF M' FL' f := by
  unfold RF
  rw [E 14 (by decide) (by decide), E 15 (by decide) (by decide), E 16 (by decide) (by decide), E 17 (by decide) (by decide), E 18 (by decide) (by decide), e]
  unfold RF at h
  rcases h with h | h | h | h | h | h | ⟨h1, n, h2, h3, h4, h5⟩
  · exact Or.inl h
  · exact Or.inr (Or.inl h)
  · exact Or.inr (Or.inr (Or.inl h))
  · exact Or.inr (Or.inr (Or.inr (Or.inl h)))
  · exact Or.inr (Or.inr (Or.inr (Or.inr (Or.inl h))))
  · exact Or.inr (Or.inr (Or.inr (Or.inr (Or.inr (Or.inl h)))))
  · refine Or.inr (Or.inr (Or.inr (Or.inr (Or.inr (Or.inr ⟨h1, n, h2, h3, ?_, fun k hk => ?_⟩)))))
    · rw [h4]
      refine List.map_congr_left (fun k hk => ?_)
      rw [List.mem_range'_1] at hk
      unfold prt
      rw [E2 19 k (by decide) (by decide) (by omega), E2 20 k (by decide) (by decide) (by omega), E2 21 k (by decide) (by decide) (by omega)]
    · rw [E2 21 k (by decide) (by decide) (by omega)]; exact h5 k hk
/-- one more filter -/
theorem RFs_add {k a b c : Int32} (hF : RFs M FL nf) (hn : nf < 8) (hw : wf nf L 0) (h : RF (adM M nf k a b c) (up1 FL nf L) nf) : RFs (adM M nf k a b c) (up1 FL nf L) (nf + 1) := by
  refine ⟨by omega, up2_at, fun f hf => ?_⟩
  by_cases e : f = nf
  · subst e; exact ⟨by rw [up1_on]; exact hw, h⟩
  · have e1 : up1 FL nf L f = FL f := up1_off _ e
    refine ⟨by rw [e1]; exact (hF.2.2 f (by omega)).1, (hF.2.2 f (by omega)).2.loc e1 (fun a h1 h2 => adM_ne (Or.inr (Or.inr e)) (by omega)) (fun a k h1 h2 h3 => adM_ne (by omega) (by omega))⟩
theorem S_adds {k a b c : Int32} (hF : RFs M FL nf) (hd : 0 < d) (q1 : nf = 8 → Q (some (vi 0)) (thn M 2)) (q2 : nf < 8 → Q (some (vi (nI nf))) (adM M nf k a b c)) : WQ z d j_Mo_adds [vr (some 0), vi k, vi a, vi b, vi c] M Q := by
  have h8 := hF.1
  have h24 := hF.2.1
  refine M_adds_0 ?_
  by_cases e : nf = 8
  · rw [h24, e, if_pos (show nI 8 = 8 from rfl)]
    exact ⟨hd, M_fails_0 (onI_v (q1 e))⟩
  · have hx : ix (nI nf) 8 := ix_nI (by omega) (by decide)
    rw [h24, if_neg (show ¬ nI nf = 8 from fun z => e (nI_inj (b := 8) (by omega) (by omega) z)), nI_clamp (by omega)]
    have e1 : (up2 M 14 nf k) 0 24 = nI nf := by rw [up2_ne (by omega), h24]
    rw [e1, nI_clamp (by omega)]
    refine ⟨hx, hx, fun M1 em => ?_⟩
    have e2 : M1 0 24 = nI nf := by rw [em, up2_ne (by omega), up2_ne (by omega), h24]
    have e3 : (up2 M1 16 nf b) 0 24 = nI nf := by rw [up2_ne (by omega), e2]
    rw [e2, nI_clamp (by omega), e3, nI_clamp (by omega)]
    refine ⟨hx, hx, fun M2 em2 => ?_⟩
    have e4 : M2 0 24 = nI nf := by rw [em2, up2_ne (by omega), e3]
    have e5 : nI (nf + 1) - 1 = nI nf := by rw [nI_mm (by omega)]; rfl
    rw [e4, nI_1, up2_at, e5, em2, em]
    exact q2 (by omega)
theorem wf_one {s : SP} (h : s.1 = 0 ∨ s.1 = 1) : wf f [s] 0 := by
  rcases h with h | h
  · exact Or.inl ⟨Or.inl h, by decide, rfl⟩
  · exact Or.inl ⟨Or.inr (Or.inl h), by decide, rfl⟩
theorem wf_cmb {kd : Int32} {r1 r2 : Nat} (h1 : r1 < f) (h2 : r2 < f) : wf f (cmb kd r1 r2) 0 := by
  unfold cmb
  split
  · exact Or.inl ⟨Or.inr (Or.inr ⟨rfl, r1, h1, rfl⟩), by decide, Or.inl ⟨Or.inr (Or.inr ⟨rfl, r2, h2, rfl⟩), by decide, Or.inr (Or.inr ⟨Or.inl rfl, by decide, rfl⟩)⟩⟩
  · split
    · exact Or.inl ⟨Or.inr (Or.inr ⟨rfl, r1, h1, rfl⟩), by decide, Or.inl ⟨Or.inr (Or.inr ⟨rfl, r2, h2, rfl⟩), by decide, Or.inr (Or.inr ⟨Or.inr rfl, by decide, rfl⟩)⟩⟩
    · exact Or.inl ⟨Or.inr (Or.inr ⟨rfl, r1, h1, rfl⟩), by decide, Or.inl ⟨Or.inr (Or.inr ⟨rfl, r2, h2, rfl⟩), by decide, Or.inr (Or.inl ⟨rfl, by decide, Or.inr (Or.inr ⟨Or.inl rfl, by decide, rfl⟩)⟩)⟩⟩
theorem S_addRangeFilter (hF : RFs M FL nf) (hd : 2 < d) (q1 : ¬ (ix x 4 ∧ y.toInt ≤ u.toInt) → Q (some (vi 0)) (thn M 1)) (q2 : ix x 4 → y.toInt ≤ u.toInt → nf = 8 → Q (some (vi 0)) (thn M 2)) (q3 : ix x 4 → y.toInt ≤ u.toInt → nf < 8 → RFs (adM (thn M 0) nf 3 x y u) (up1 FL nf [(0, x, y, u)]) (nf + 1) → Q (some (vi (nI nf))) (adM (thn M 0) nf 3 x y u)) : WQ z d j_Mo_addRangeFilter [vr (some 0), vi x, vi y, vi u] M Q := by
  have F0 := RFs_thn (k := 0) hF
  have e3 : (3 : Int32).toInt = 3 := rfl
  refine M_addRangeFilter_0 ⟨by omega, S_in (fun c => onI_1 ?_) (fun c => onI_0 (S_fails' (by omega) (q1 (fun h => c ?_))))⟩
  · rw [e3, i_0] at c
    have hx : ix x 4 := ix_iff.mpr (by omega)
    split
    · rename_i c2; rw [i_lt] at c2
      exact S_fails' (by omega) (q1 (fun h => by omega))
    · rename_i c2; rw [i_lt] at c2
      refine ⟨by omega, S_adds F0 (by omega) (fun h => onI_v ?_) (fun h => onI_v (q3 hx (by omega) h (RFs_add F0 h (wf_one (Or.inl rfl)) ?_)))⟩
      · rw [thn_thn]; exact q2 hx (by omega) h
      · exact Or.inr (Or.inr (Or.inr (Or.inl ⟨adM_14, by rw [up1_on, adM_15, adM_16, adM_17]⟩)))
  · rw [e3, i_0]; have := ix_iff.mp h.1; omega
theorem S_addHeavierFilter (I : TI M T N W) (hW : W < 2147483647) (hF : RFs M FL nf) (hd : 2 < d) (q1 : ¬ (ix x N ∧ M 4 x.toNatClampNeg < 2) → Q (some (vi 0)) (thn M 1)) (q2 : ∀ i, i ∈ ino T → x = nI i → nf = 8 → Q (some (vi 0)) (thn M 2)) (q3 : ∀ i, i ∈ ino T → x = nI i → nf < 8 → RFs (adM (thn M 0) nf 4 (M 3 i) 0 0) (up1 FL nf [(0, 2, M 3 i + 1, 2147483647)]) (nf + 1) → Q (some (vi (nI nf))) (adM (thn M 0) nf 4 (M 3 i) 0 0)) : WQ z d j_Mo_addHeavierFilter [vr (some 0), vi x] M Q := by
  have F0 := RFs_thn (k := 0) hF
  have hN := I.2.1
  have I0 : TI (thn M 0) T N W := TI_thn I
  refine M_addHeavierFilter_0 ⟨by omega, S_isInTree I0.1 hN (by omega) (fun h1 h2 => onI_1 ?_) (fun h2 => onI_0 (S_fails' (by omega) (q1 ?_)))⟩
  · obtain ⟨i, hi, rfl⟩ := ix_ex h1 (by omega)
    rw [nI_clamp (by omega), up2_ne (by omega)] at h2
    have hin : i ∈ ino T := (I.2.2.2.2.1 i).mpr ⟨hi, fun e => by rw [e] at h2; exact absurd h2 (by decide)⟩
    rw [nI_clamp (by omega)]
    have ew : (up2 M 0 0 0) 3 i = M 3 i := up2_ne (by omega)
    rw [ew]
    refine ⟨ix_nI (by omega) (by decide), by omega, S_adds F0 (by omega) (fun h => onI_v ?_) (fun h => onI_v (q3 i hin rfl h (RFs_add F0 h (wf_one (Or.inl rfl)) ?_)))⟩
    · rw [thn_thn]; exact q2 i hin rfl h
    · refine Or.inr (Or.inr (Or.inr (Or.inr (Or.inl ⟨adM_14, by rw [up1_on, adM_15], ?_⟩))))
      rw [adM_15]
      have := (I.2.2.2.2.2.2.2.1 i hi).2
      omega
  · rw [up2_ne (by omega)] at h2; exact h2
theorem S_addCombinedFilter (hF : RFs M FL nf) (hd : 2 < d) (q1 : ¬ (ix x 3 ∧ ix y nf ∧ ix u nf) → Q (some (vi 0)) (thn M 1)) (q2 : ix x 3 → ix y nf → ix u nf → nf = 8 → Q (some (vi 0)) (thn M 2)) (q3 : ∀ r1 r2, ix x 3 → r1 < nf → r2 < nf → y = nI r1 → u = nI r2 → nf < 8 → RFs (adM (thn M 0) nf 5 x y u) (up1 FL nf (cmb x r1 r2)) (nf + 1) → Q (some (vi (nI nf))) (adM (thn M 0) nf 5 x y u)) : WQ z d j_Mo_addCombinedFilter [vr (some 0), vi x, vi y, vi u] M Q := by
  have h8 := hF.1
  have F0 := RFs_thn (k := 0) hF
  have e3 : (2 : Int32).toInt = 2 := rfl
  refine M_addCombinedFilter_0 ⟨by omega, S_in (fun c => onI_1 ?_) (fun c => onI_0 (S_fails' (by omega) (q1 (fun h => c ?_))))⟩
  · rw [e3, i_0] at c
    have hx : ix x 3 := ix_iff.mpr (by omega)
    refine ⟨by omega, S_isFilter F0.2.1 F0.1 (by omega) (fun h1 => onI_1 ⟨by omega, S_isFilter F0.2.1 F0.1 (by omega) (fun h2 => onI_1 ?_) (fun h => onI_0 (S_fails' (by omega) (q1 (fun z => h z.2.2))))⟩) (fun h => onI_0 (S_fails' (by omega) (q1 (fun z => h z.2.1))))⟩
    obtain ⟨r1, hr1, rfl⟩ := ix_ex h1 (by omega)
    obtain ⟨r2, hr2, rfl⟩ := ix_ex h2 (by omega)
    refine ⟨by omega, S_adds F0 (by omega) (fun h => onI_v ?_) (fun h => onI_v (q3 r1 r2 hx hr1 hr2 rfl rfl h (RFs_add F0 h (wf_cmb hr1 hr2) ?_)))⟩
    · rw [thn_thn]; exact q2 hx h1 h2 h
    · exact Or.inr (Or.inr (Or.inr (Or.inr (Or.inr (Or.inl ⟨adM_14, r1, r2, hr1, hr2, adM_16, adM_17, by rw [up1_on, adM_15]⟩)))))
  · rw [e3, i_0]; have := ix_iff.mp h.1; omega
def fdM (M : MT) (n : Nat) (x : Int32) : MT := up2 (up2 (thn M 0) 23 n x) 0 35 (nI (n + 1))
theorem S_feed {n : Nat} (h35 : M 0 35 = nI n) (hn : n ≤ 60) (hd : 1 < d) (q1 : ¬ ix x 256 → Q (some (vi 0)) (thn M 1)) (q2 : ix x 256 → n = 60 → Q (some (vi 0)) (thn M 2)) (q3 : ix x 256 → n < 60 → Q (some (vi (nI (n + 1)))) (fdM M n x)) : WQ z d j_Mo_feed [vr (some 0), vi x] M Q := by
  have e3 : (255 : Int32).toInt = 255 := rfl
  refine M_feed_0 ⟨by omega, S_in (fun c => onI_1 ?_) (fun c => onI_0 (S_fails' (by omega) (q1 (fun h => c ?_))))⟩
  · rw [e3, i_0] at c
    have hx : ix x 256 := ix_iff.mpr (by omega)
    have e35 : (up2 M 0 0 0) 0 35 = nI n := (up2_ne (by omega)).trans h35
    rw [e35]
    by_cases e : n = 60
    · rw [e, if_pos (by rfl)]; exact S_fails' (by omega) (q2 hx e)
    · rw [if_neg (show ¬ nI n = 60 from fun z => e (nI_inj (b := 60) (by omega) (by omega) z)), nI_clamp (by omega)]
      refine ⟨ix_nI (by omega) (by decide), fun M5 em => ?_⟩
      have e5 : M5 = fdM M n x := by
        rw [em, up2_ne (by omega), e35, nI_1]; rfl
      rw [e5]
      have e6 : fdM M n x 0 35 = nI (n + 1) := up2_at
      rw [e6]
      exact q3 hx (by omega)
  · rw [e3, i_0]; have := ix_iff.mp h; omega
end ADDR
