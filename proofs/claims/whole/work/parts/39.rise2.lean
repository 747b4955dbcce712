/-! ===== a child that takes its parent's place, on trees ===== -/
theorem sepd {A B S C : List Nat} {n p : Nat} (h : ((A ++ n :: B) ++ (p :: (S ++ C))).Nodup) : n ≠ p ∧ (∀ x ∈ A, x ≠ n ∧ x ≠ p ∧ x ∉ B ∧ x ∉ C) ∧ (∀ x ∈ B, x ≠ n ∧ x ≠ p ∧ x ∉ C) ∧ (∀ x ∈ S, x ≠ n ∧ x ≠ p ∧ x ∉ B ∧ x ∉ C ∧ x ∉ A) ∧ n ∉ C ∧ p ∉ C ∧ C.Nodup ∧ B.Nodup ∧ A.Nodup := by
  simp only [List.nodup_append, List.nodup_cons, List.mem_append, List.mem_cons] at h
  obtain ⟨⟨hA, ⟨hnB, hB⟩, hAB⟩, ⟨hp, hS, hC, hSC⟩, hx⟩ := h
  refine ⟨?_, ?_, ?_, ?_, ?_, ?_, hC, hB, hA⟩
  · exact hx n (Or.inr (Or.inl rfl)) p (Or.inl rfl)
  · intro x xA
    refine ⟨hAB x xA n (Or.inl rfl), hx x (Or.inl xA) p (Or.inl rfl), fun xB => hAB x xA x (Or.inr xB) rfl, fun xC => hx x (Or.inl xA) x (Or.inr (Or.inr xC)) rfl⟩
  · intro x xB
    exact ⟨fun c => hnB (c ▸ xB), hx x (Or.inr (Or.inr xB)) p (Or.inl rfl), fun xC => hx x (Or.inr (Or.inr xB)) x (Or.inr (Or.inr xC)) rfl⟩
  · intro x xS
    exact ⟨fun c => hx n (Or.inr (Or.inl rfl)) x (Or.inr (Or.inl xS)) c.symm, fun c => hp (Or.inl (c ▸ xS)), fun xB => hx x (Or.inr (Or.inr xB)) x (Or.inr (Or.inl xS)) rfl, fun xC => hSC x xS x xC rfl, fun xA => hx x (Or.inl xA) x (Or.inr (Or.inl xS)) rfl⟩
  · exact fun c => hx n (Or.inr (Or.inl rfl)) n (Or.inr (Or.inr c)) rfl
  · exact fun c => hp (Or.inr c)
/-- the rows of a memory in which n has taken p's place, n's child of row b having gone to p's row a -/
theorem riseS_rows {M : MT} {a b n p : Nat} {cx : Zc} {t : Tr} (hab : (a = 5 ∧ b = 6) ∨ (a = 6 ∧ b = 5)) (hn5 : n < 500) (hp5 : p < 500) (hnp : n ≠ p) (hbn : M b n = rootOf t) (h7p : M 7 p = upOf cx) (hb : ∀ x ∈ cids cx, x < 500) (ht : ∀ x ∈ ino t, x < 500) (hnt : n ∉ ino t) (hpt : p ∉ ino t) (htc : ∀ x ∈ ino t, x ∉ cids cx) (hnc : n ∉ cids cx) (hpc : p ∉ cids cx) (hd : (cids cx).Nodup) (eC : EncC M (nI p) cx) :
    riseS M a b n p 7 n = upOf cx ∧ riseS M a b n p 7 p = nI n ∧ riseS M a b n p a p = rootOf t ∧ riseS M a b n p b n = nI p ∧ riseS M a b n p b p = M b p ∧ riseS M a b n p a n = M a n ∧
    (∀ i, i < 500 → i ∉ cids cx → i ≠ n → i ≠ p → riseS M a b n p 5 i = M 5 i ∧ riseS M a b n p 6 i = M 6 i ∧ (nI i ≠ rootOf t → riseS M a b n p 7 i = M 7 i) ∧ (nI i = rootOf t → riseS M a b n p 7 i = nI p)) ∧ EncC (riseS M a b n p) (nI n) cx ∧
    (∀ k i, k ≠ 5 → k ≠ 6 → k ≠ 7 → ¬ (k = 0 ∧ i = 9) → riseS M a b n p k i = M k i) := by
  unfold riseS
  rw [h7p, hbn]
  have hpu := pt_up hb
  have nu := up_out hn5 hb hnc
  have pu := up_out hp5 hb hpc
  have key : ∀ k i, ¬ (k = 7 ∧ nI i = rootOf t) → ¬ (k = a ∧ i = p) → (if rootOf t = -1 then up2 M a p (rootOf t) else up2 (up2 M a p (rootOf t)) 7 (rootOf t).toNatClampNeg (nI p)) k i = M k i := by
    intro k i h1 h2
    rcases root_in (t := t) with h | ⟨m, hm, h⟩
    · rw [if_pos h, up2_ne h2]
    · rw [h, if_neg (nI_m1 (by have := ht m hm; omega)), nI_clamp (by have := ht m hm; omega), up2_ne (fun c => h1 ⟨c.1, by rw [c.2, h]⟩), up2_ne h2]
  have key2 : (if rootOf t = -1 then up2 M a p (rootOf t) else up2 (up2 M a p (rootOf t)) 7 (rootOf t).toNatClampNeg (nI p)) a p = rootOf t := by
    split
    · exact up2_at
    · rw [up2_ne (by omega), up2_at]
  have key3 : ∀ i, i < 500 → nI i = rootOf t → (if rootOf t = -1 then up2 M a p (rootOf t) else up2 (up2 M a p (rootOf t)) 7 (rootOf t).toNatClampNeg (nI p)) 7 i = nI p := by
    intro i hi h
    rw [← h, if_neg (nI_m1 (by omega)), nI_clamp (by omega), up2_at]
  have nt : ¬ nI n = rootOf t := by
    intro c
    rcases root_in (t := t) with h | ⟨m, hm, h⟩
    · exact nI_m1 (by omega) (c.trans h)
    · exact hnt (nI_inj hn5 (ht m hm) (c.trans h) ▸ hm)
  have pt' : ¬ nI p = rootOf t := by
    intro c
    rcases root_in (t := t) with h | ⟨m, hm, h⟩
    · exact nI_m1 (by omega) (c.trans h)
    · exact hpt (nI_inj hp5 (ht m hm) (c.trans h) ▸ hm)
  generalize (if rootOf t = -1 then up2 M a p (rootOf t) else up2 (up2 M a p (rootOf t)) 7 (rootOf t).toNatClampNeg (nI p)) = X at key key2 key3 ⊢
  have eX : EncC (up2 X b n (nI p)) (nI p) cx := by
    refine EncC_congr (fun i hi => ?_) ?_ eC
    · have h1 : i ≠ n := fun c => hnc (c ▸ hi)
      have h2 : i ≠ p := fun c => hpc (c ▸ hi)
      have h3 : ¬ nI i = rootOf t := by
        intro c
        rcases root_in (t := t) with h | ⟨m, hm, h⟩
        · exact nI_m1 (by have := hb i hi; omega) (c.trans h)
        · exact htc m hm (nI_inj (hb i hi) (ht m hm) (c.trans h) ▸ hi)
      exact ⟨by rw [up2_ne (by omega), key 5 i (by omega) (by omega)], by rw [up2_ne (by omega), key 6 i (by omega) (by omega)], by rw [up2_ne (by omega), key 7 i (fun c => h3 c.2) (by omega)]⟩
    · rw [up2_ne (by omega), key 0 9 (by omega) (by omega)]
  have eH := hang_enc (n := n) eX hd hb hp5 hpc hnc
  refine ⟨?_, up2_at, ?_, ?_, ?_, ?_, ?_, ?_, ?_⟩
  · rw [up2_ne (by omega), hangM_7]
  · rw [up2_ne (by omega), hangM_off (by omega) (by omega) (fun c => pu c.2) (fun c => pu c.2) hpu, up2_ne (by omega), key2]
  · rw [up2_ne (by omega), hangM_off (by omega) (by omega) (fun c => nu c.2) (fun c => nu c.2) hpu, up2_at]
  · rw [up2_ne (by omega), hangM_off (by omega) (by omega) (fun c => pu c.2) (fun c => pu c.2) hpu, up2_ne (by omega), key b p (by omega) (by omega)]
  · rw [up2_ne (by omega), hangM_off (by omega) (by omega) (fun c => nu c.2) (fun c => nu c.2) hpu, up2_ne (by omega), key a n (by omega) (by omega)]
  · intro i hi hc hin hip
    have iu := up_out hi hb hc
    refine ⟨?_, ?_, fun h => ?_, fun h => ?_⟩
    · rw [up2_ne (by omega), hangM_off (by omega) (by omega) (fun c => iu c.2) (fun c => iu c.2) hpu, up2_ne (by omega), key 5 i (by omega) (by omega)]
    · rw [up2_ne (by omega), hangM_off (by omega) (by omega) (fun c => iu c.2) (fun c => iu c.2) hpu, up2_ne (by omega), key 6 i (by omega) (by omega)]
    · rw [up2_ne (by omega), hangM_off (by omega) (by omega) (fun c => iu c.2) (fun c => iu c.2) hpu, up2_ne (by omega), key 7 i (fun c => h c.2) (by omega)]
    · rw [up2_ne (by omega), hangM_off (by omega) (by omega) (fun c => iu c.2) (fun c => iu c.2) hpu, up2_ne (by omega), key3 i hi h]
  · refine EncC_congr (fun i hi => ?_) ?_ eH
    · have h2 : i ≠ p := fun c => hpc (c ▸ hi)
      exact ⟨by rw [up2_ne (by omega)], by rw [up2_ne (by omega)], by rw [up2_ne (by omega)]⟩
    · rw [up2_ne (by omega)]
  · intro k i h5 h6 h7 h0
    rw [up2_ne (by omega), hangM_off h0 (fun c => h7 c.1) (fun c => h5 c.1) (fun c => h6 c.1) hpu, up2_ne (by omega), key k i (fun c => h7 c.1) (by omega)]
theorem rise_t {M : MT} {n p : Nat} {a b s : Tr} {cx : Zc} (e : EncZ M (.branch n a b) ((true, p, s) :: cx)) (hd : (ino (.branch n a b) ++ cids ((true, p, s) :: cx)).Nodup) (hb : ∀ x ∈ ino (.branch n a b) ++ cids ((true, p, s) :: cx), x < 500) :
    EncZ (riseM M n p) (.branch n a (.branch p b s)) cx ∧ (∀ k i, k ≠ 5 → k ≠ 6 → k ≠ 7 → ¬ (k = 0 ∧ i = 9) → riseM M n p k i = M k i) := by
  obtain ⟨⟨e1, e2, e3, e4, e5⟩, f1, f2, f3, f4, f5⟩ := e
  have f2 : M 5 p = nI n := f2
  obtain ⟨hnp, hA, hB, hS, hnC, hpC, hC, hBn, hAn⟩ := sepd (A := ino a) (B := ino b) (S := ino s) (C := cids cx) hd
  have hn5 : n < 500 := hb n (List.mem_append_left _ (List.mem_append_right _ List.mem_cons_self))
  have hp5 : p < 500 := hb p (List.mem_append_right _ List.mem_cons_self)
  have bA : ∀ x ∈ ino a, x < 500 := fun x h => hb x (List.mem_append_left _ (List.mem_append_left _ h))
  have bB : ∀ x ∈ ino b, x < 500 := fun x h => hb x (List.mem_append_left _ (List.mem_append_right _ (List.mem_cons_of_mem _ h)))
  have bS : ∀ x ∈ ino s, x < 500 := fun x h => hb x (List.mem_append_right _ (List.mem_cons_of_mem _ (List.mem_append_left _ h)))
  have bC : ∀ x ∈ cids cx, x < 500 := fun x h => hb x (List.mem_append_right _ (List.mem_cons_of_mem _ (List.mem_append_right _ h)))
  unfold riseM
  rw [if_pos f2]
  obtain ⟨r1, r2, r3, r4, r5, r6, r7, r8, r9⟩ := riseS_rows (a := 5) (b := 6) (t := b) (Or.inl ⟨rfl, rfl⟩) hn5 hp5 hnp e3 f1 bC bB (fun c => (hB n c).1 rfl) (fun c => (hB p c).2.1 rfl) (fun x h => (hB x h).2.2) hnC hpC hC f5
  have off : ∀ x, x ∉ ino b → ¬ (x < 500 ∧ nI x = rootOf b) := by
    intro x hx ⟨h5, c⟩
    rcases root_in (t := b) with h | ⟨m, hm, h⟩
    · exact nI_m1 (by omega) (c.trans h)
    · exact hx (nI_inj h5 (bB m hm) (c.trans h) ▸ hm)
  refine ⟨⟨⟨r1, r6.trans e2, r4, Enc_congr (fun x h => ?_) e4, r2, r3, r5.trans f3, Enc_re hBn (fun x h => ?_) bB (fun x h c => ?_) e5, Enc_congr (fun x h => ?_) f4⟩, r8⟩, r9⟩
  · have q := r7 x (bA x h) (hA x h).2.2.2 (hA x h).1 (hA x h).2.1
    exact ⟨q.1.symm, q.2.1.symm, (q.2.2.1 (fun c => off x (hA x h).2.2.1 ⟨bA x h, c⟩)).symm⟩
  · have q := r7 x (bB x h) (hB x h).2.2 (hB x h).1 (hB x h).2.1
    refine ⟨q.1.symm, q.2.1.symm, ?_⟩
    by_cases c : nI x = rootOf b
    · exact Or.inl c
    · exact Or.inr (q.2.2.1 c).symm
  · exact (r7 x (bB x h) (hB x h).2.2 (hB x h).1 (hB x h).2.1).2.2.2 c.symm
  · have q := r7 x (bS x h) (hS x h).2.2.2.1 (hS x h).1 (hS x h).2.1
    exact ⟨q.1.symm, q.2.1.symm, (q.2.2.1 (fun c => off x (hS x h).2.2.1 ⟨bS x h, c⟩)).symm⟩
theorem rise_f {M : MT} {n p : Nat} {a b s : Tr} {cx : Zc} (e : EncZ M (.branch n a b) ((false, p, s) :: cx)) (hd : (ino (.branch n a b) ++ cids ((false, p, s) :: cx)).Nodup) (hb : ∀ x ∈ ino (.branch n a b) ++ cids ((false, p, s) :: cx), x < 500) :
    EncZ (riseM M n p) (.branch n (.branch p s a) b) cx ∧ (∀ k i, k ≠ 5 → k ≠ 6 → k ≠ 7 → ¬ (k = 0 ∧ i = 9) → riseM M n p k i = M k i) := by
  obtain ⟨⟨e1, e2, e3, e4, e5⟩, f1, f2, f3, f4, f5⟩ := e
  have f2 : M 6 p = nI n := f2
  have hd' : ((ino b ++ n :: ino a) ++ (p :: (ino s ++ cids cx))).Nodup := by
    refine (List.Perm.nodup_iff ?_).mp hd
    show ((ino a ++ n :: ino b) ++ (p :: (ino s ++ cids cx))).Perm _
    refine List.Perm.append_right _ ?_
    rw [List.perm_iff_count]; intro x; simp only [List.count_append, List.count_cons]; omega
  obtain ⟨hnp, hB, hA, hS, hnC, hpC, hC, hAn, hBn⟩ := sepd (A := ino b) (B := ino a) (S := ino s) (C := cids cx) hd'
  have hn5 : n < 500 := hb n (List.mem_append_left _ (List.mem_append_right _ List.mem_cons_self))
  have hp5 : p < 500 := hb p (List.mem_append_right _ List.mem_cons_self)
  have bA : ∀ x ∈ ino a, x < 500 := fun x h => hb x (List.mem_append_left _ (List.mem_append_left _ h))
  have bB : ∀ x ∈ ino b, x < 500 := fun x h => hb x (List.mem_append_left _ (List.mem_append_right _ (List.mem_cons_of_mem _ h)))
  have bS : ∀ x ∈ ino s, x < 500 := fun x h => hb x (List.mem_append_right _ (List.mem_cons_of_mem _ (List.mem_append_left _ h)))
  have bC : ∀ x ∈ cids cx, x < 500 := fun x h => hb x (List.mem_append_right _ (List.mem_cons_of_mem _ (List.mem_append_right _ h)))
  have hne : ¬ M 5 p = nI n := by
    rw [f3]
    intro c
    rcases root_in (t := s) with h | ⟨m, hm, h⟩
    · exact nI_m1 (n := n) (by omega) (c.symm.trans h)
    · exact (hS m hm).1 (nI_inj (bS m hm) hn5 (h.symm.trans c))
  unfold riseM
  rw [if_neg hne]
  obtain ⟨r1, r2, r3, r4, r5, r6, r7, r8, r9⟩ := riseS_rows (a := 6) (b := 5) (t := a) (Or.inr ⟨rfl, rfl⟩) hn5 hp5 hnp e2 f1 bC bA (fun c => (hA n c).1 rfl) (fun c => (hA p c).2.1 rfl) (fun x h => (hA x h).2.2) hnC hpC hC f5
  have off : ∀ x, x ∉ ino a → ¬ (x < 500 ∧ nI x = rootOf a) := by
    intro x hx ⟨h5, c⟩
    rcases root_in (t := a) with h | ⟨m, hm, h⟩
    · exact nI_m1 (by omega) (c.trans h)
    · exact hx (nI_inj h5 (bA m hm) (c.trans h) ▸ hm)
  refine ⟨⟨⟨r1, r4, r6.trans e3, ⟨r2, r5.trans f3, r3, Enc_congr (fun x h => ?_) f4, Enc_re hAn (fun x h => ?_) bA (fun x h c => ?_) e4⟩, Enc_congr (fun x h => ?_) e5⟩, r8⟩, r9⟩
  · have q := r7 x (bS x h) (hS x h).2.2.2.1 (hS x h).1 (hS x h).2.1
    exact ⟨q.1.symm, q.2.1.symm, (q.2.2.1 (fun c => off x (hS x h).2.2.1 ⟨bS x h, c⟩)).symm⟩
  · have q := r7 x (bA x h) (hA x h).2.2 (hA x h).1 (hA x h).2.1
    refine ⟨q.1.symm, q.2.1.symm, ?_⟩
    by_cases c : nI x = rootOf a
    · exact Or.inl c
    · exact Or.inr (q.2.2.1 c).symm
  · exact (r7 x (bA x h) (hA x h).2.2 (hA x h).1 (hA x h).2.1).2.2.2 c.symm
  · have q := r7 x (bB x h) (hB x h).2.2.2 (hB x h).1 (hB x h).2.1
    exact ⟨q.1.symm, q.2.1.symm, (q.2.2.1 (fun c => off x (hB x h).2.2.1 ⟨bB x h, c⟩)).symm⟩
