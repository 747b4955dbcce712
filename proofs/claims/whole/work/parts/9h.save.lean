/-! ===== save and load of the reference ===== -/
theorem TI_congr5 {M M' : MT} {T : Tr} {N : Nat} {W : Int} (h : ∀ r i, 1 ≤ r → r ≤ 8 → i < 500 → M' r i = M r i) (h8 : ∀ i, b01 (M' 8 i)) (h0 : ∀ i, 9 ≤ i → i ≤ 13 → M' 0 i = M 0 i) (I : TI M T N W) : TI M' T N W := by
  have I0 := I
  obtain ⟨i1, i2, i3, i4, i5, i6, i7, i8, i9, i10, i11, i12, i13⟩ := I
  have lt : ∀ x, x ∈ ino T → x < 500 := fun x hx => (I0.lt hx).2
  have h4 : ∀ x, x ∈ ino T → M' 4 x = M 4 x := fun x hx => h 4 x (by decide) (by decide) (lt x hx)
  refine ⟨(h0 10 (by decide) (by decide)).trans i1, i2, ?_, ?_, fun x => ?_, fun x hx => ?_, fun x hx => ?_, fun x hx => ?_, (h0 11 (by decide) (by decide)).trans i9, i10, ?_, ?_, h8⟩
  · obtain ⟨⟨e1, e2⟩, hi, ⟨k, B⟩, hr⟩ := i3
    have e8 : ∀ i ∈ ino T, rd M i = rd M' i := fun i hi => rd_eq (h 8 i (by decide) (by decide) (lt i hi))
    refine ⟨⟨Enc_congr (fun x hx => ⟨(h 5 x (by decide) (by decide) (lt x hx)).symm, (h 6 x (by decide) (by decide) (lt x hx)).symm, (h 7 x (by decide) (by decide) (lt x hx)).symm⟩) e1, ?_⟩, hi, ⟨k, RB_congr e8 B⟩, ?_⟩
    · exact (h0 9 (by decide) (by decide)).trans e2
    · rw [← isRedT_congr e8]; exact hr
  · refine i4.imp_of_mem (fun {a b} ha hb q => ?_)
    unfold less
    rw [h 1 a (by decide) (by decide) (lt a ha), h 1 b (by decide) (by decide) (lt b hb), h 2 a (by decide) (by decide) (lt a ha), h 2 b (by decide) (by decide) (lt b hb)]
    exact q
  · constructor
    · intro hx
      have := (i5 x).mp hx
      rw [h4 x hx]; exact this
    · intro hx
      rw [h 4 x (by decide) (by decide) (by omega)] at hx
      exact (i5 x).mpr hx
  · rw [h 4 x (by decide) (by decide) (by omega)]; exact i6 x hx
  · rw [h 1 x (by decide) (by decide) (by omega), h 2 x (by decide) (by decide) (by omega)]; exact i7 x hx
  · rw [h 3 x (by decide) (by decide) (by omega)]; exact i8 x hx
  · rw [h0 12 (by decide) (by decide), i11]; unfold gone; rw [filt_congr h4]
  · rw [h0 13 (by decide) (by decide)]; exact i12
/-- the row that a row is saved from -/
def sR (r : Nat) : Nat := if r = 35 then 8 else r - 26
theorem sR_lt {r : Nat} (h : r ≤ 35) (h2 : r ≠ 34) : sR r < 9 := by unfold sR; split <;> omega
def SvQ (M M1 : MT) (k a : Nat) : Prop := (∀ r i, r < 27 → M1 r i = M r i) ∧ (∀ r i, 27 ≤ r → r ≤ 35 → r ≠ 34 → (i < k ∨ (i = k ∧ r < a)) → M1 r i = M (sR r) i)
theorem SvQ.put {M M1 : MT} {k a : Nat} (h : SvQ M M1 k a) (h1 : 27 ≤ a) (h2 : a ≤ 35) (h3 : a ≠ 34) : SvQ M (up2 M1 a k (M1 (sR a) k)) k (a + 1) := by
  refine ⟨fun r i hr => ?_, fun r i r1 r2 r3 hi => ?_⟩
  · rw [up2_ne (by omega)]; exact h.1 r i hr
  · by_cases c : r = a ∧ i = k
    · rw [c.1, c.2, up2_at]; exact h.1 _ _ (by have := sR_lt h2 h3; omega)
    · rw [up2_ne c]; exact h.2 r i r1 r2 r3 (by omega)
theorem SvQ.skip {M M1 : MT} {k : Nat} (h : SvQ M M1 k 34) : SvQ M M1 k 35 := ⟨h.1, fun r i r1 r2 r3 hi => h.2 r i r1 r2 r3 (by omega)⟩
theorem SvQ.next {M M1 : MT} {k : Nat} (h : SvQ M M1 k 36) : SvQ M M1 (k + 1) 27 := ⟨h.1, fun r i r1 r2 r3 hi => h.2 r i r1 r2 r3 (by omega)⟩
/-- what a save leaves -/
def SavP (M M' : MT) : Prop := (∀ r i, 27 ≤ r → r ≤ 35 → r ≠ 34 → i < 500 → M' r i = M (sR r) i) ∧ (∀ i, i < 7 → M' 34 i = M 0 (9 + i)) ∧ M' 0 42 = 1 ∧ ∀ r i, r < 27 → ¬ (r = 0 ∧ i = 42) → M' r i = M r i
section SAVE
variable {z : Nat × Nat} {d : Nat} {M : MT} {Q : Option AV → MT → Prop} {T : Tr} {N : Nat} {W : Int}
theorem L_save (h8 : ∀ i, b01 (M 8 i)) (hd : 0 < d) (q : ∀ M', SavP M M' → Q (some (vi (M 0 11 - M 0 12))) M') : ∀ (n k : Nat) (M1 : MT), k + n = 500 → SvQ (up2 M 0 42 1) M1 k 27 → WK z d j_Mo_save 7 [some (vr (some 0)), some (vi (nI k))] [] M1 Q := by
  intro n
  induction n with
  | zero =>
    intro k M1 hk S
    refine M_save_7 ?_
    have e : k = 500 := by omega
    rw [e, if_neg (by decide)]
    refine ⟨(by unfold ix; decide), (by unfold ix; decide), fun M2 e2 => ⟨(by unfold ix; decide), M_save_146 ⟨(by unfold ix; decide), (by unfold ix; decide), fun M3 e3 => ⟨(by unfold ix; decide), (by unfold ix; decide), fun M4 e4 => ⟨by omega, M_live_0 (onI_v ?_)⟩⟩⟩⟩⟩
    rw [e] at S
    have z2 : (2 : Int32).toNatClampNeg = 2 := rfl
    have z3 : (3 : Int32).toNatClampNeg = 3 := rfl
    have z4 : (4 : Int32).toNatClampNeg = 4 := rfl
    have z5 : (5 : Int32).toNatClampNeg = 5 := rfl
    have z6 : (6 : Int32).toNatClampNeg = 6 := rfl
    have z0 : (0 : Int32).toNatClampNeg = 0 := rfl
    have z1 : (1 : Int32).toNatClampNeg = 1 := rfl
    rw [z0, z1] at e2
    rw [z2, z3, z4] at e3
    rw [z5, z6] at e4
    have f1 : ∀ r i, r ≠ 34 → M2 r i = M1 r i := fun r i h => by rw [e2, up2_ne (by omega), up2_ne (by omega)]
    have f2 : ∀ r i, r ≠ 34 → M3 r i = M1 r i := fun r i h => by rw [e3, up2_ne (by omega), up2_ne (by omega), up2_ne (by omega)]; exact f1 r i h
    have f3 : ∀ r i, r ≠ 34 → M4 r i = M1 r i := fun r i h => by rw [e4, up2_ne (by omega), up2_ne (by omega)]; exact f2 r i h
    have g0 : ∀ i, i ≠ 42 → M1 0 i = M 0 i := fun i h => by rw [S.1 0 i (by decide), up2_ne (by omega)]
    have P : SavP M M4 := by
      refine ⟨fun r i h1 h2 h3 hi => ?_, fun i hi => ?_, ?_, fun r i hr hn => ?_⟩
      · rw [f3 r i h3, S.2 r i h1 h2 h3 (Or.inl hi)]
        have := sR_lt h2 h3
        by_cases c : sR r = 0
        · exfalso; unfold sR at c; split at c <;> omega
        · rw [up2_ne (by omega)]
      · have : i = 0 ∨ i = 1 ∨ i = 2 ∨ i = 3 ∨ i = 4 ∨ i = 5 ∨ i = 6 := by omega
        rcases this with rfl | rfl | rfl | rfl | rfl | rfl | rfl
        · rw [e4, up2_ne (by decide), up2_ne (by decide), e3, up2_ne (by decide), up2_ne (by decide), up2_ne (by decide), e2, up2_ne (by decide), up2_at]; exact g0 9 (by decide)
        · rw [e4, up2_ne (by decide), up2_ne (by decide), e3, up2_ne (by decide), up2_ne (by decide), up2_ne (by decide), e2, up2_at, up2_ne (by decide)]; exact g0 10 (by decide)
        · rw [e4, up2_ne (by decide), up2_ne (by decide), e3, up2_ne (by decide), up2_ne (by decide), up2_at, f1 0 11 (by decide)]; exact g0 11 (by decide)
        · rw [e4, up2_ne (by decide), up2_ne (by decide), e3, up2_ne (by decide), up2_at, up2_ne (by decide), f1 0 12 (by decide)]; exact g0 12 (by decide)
        · rw [e4, up2_ne (by decide), up2_ne (by decide), e3, up2_at, up2_ne (by decide), up2_ne (by decide), f1 0 13 (by decide)]; exact g0 13 (by decide)
        · rw [e4, up2_ne (by decide), up2_at, f2 0 14 (by decide)]; exact g0 14 (by decide)
        · rw [e4, up2_at, up2_ne (by decide), f2 0 15 (by decide)]; exact g0 15 (by decide)
      · rw [f3 0 42 (by decide), S.1 0 42 (by decide), up2_at]
      · rw [f3 r i (by omega), S.1 r i hr, up2_ne hn]
    have e11 : M4 0 11 = M 0 11 := (f3 0 11 (by decide)).trans (g0 11 (by decide))
    have e12 : M4 0 12 = M 0 12 := (f3 0 12 (by decide)).trans (g0 12 (by decide))
    rw [e11, e12]
    exact q M4 P
  | succ n ih =>
    intro k M1 hk S
    have xk : ix (nI k) 500 := ix_nI (by omega) (by decide)
    have ck : (nI k).toNatClampNeg = k := nI_clamp (by omega)
    refine M_save_7 ?_
    rw [show (500 : Int32) = nI 500 from rfl, if_pos (nI_lt (by omega) (by omega)), ck]
    refine ⟨xk, xk, xk, xk, fun M2 e2 => ⟨xk, xk, M_save_50 ⟨xk, xk, xk, xk, fun M3 e3 => ⟨xk, xk, xk, xk, M_save_98 ⟨xk, xk, ?_, ?_⟩⟩⟩⟩⟩
    · rw [ck] at e3 ⊢
      have S2 : SvQ (up2 M 0 42 1) M2 k 29 := by rw [e2]; exact (S.put (a := 27) (by decide) (by decide) (by decide)).put (a := 28) (by decide) (by decide) (by decide)
      have S3 : SvQ (up2 M 0 42 1) (up2 M2 29 k (M2 3 k)) k 30 := S2.put (a := 29) (by decide) (by decide) (by decide)
      have S4 : SvQ (up2 M 0 42 1) M3 k 32 := by rw [e3]; exact (S3.put (a := 30) (by decide) (by decide) (by decide)).put (a := 31) (by decide) (by decide) (by decide)
      have S5 := (S4.put (a := 32) (by decide) (by decide) (by decide)).put (a := 33) (by decide) (by decide) (by decide)
      have e8 := S5.1 8 k (by decide)
      rw [up2_ne (by omega : ¬ ((8 : Nat) = 0 ∧ k = 42))] at e8
      have := h8 k
      rw [← e8] at this
      exact this
    · rw [ck] at e3 ⊢
      have S2 : SvQ (up2 M 0 42 1) M2 k 29 := by rw [e2]; exact (S.put (a := 27) (by decide) (by decide) (by decide)).put (a := 28) (by decide) (by decide) (by decide)
      have S3 : SvQ (up2 M 0 42 1) (up2 M2 29 k (M2 3 k)) k 30 := S2.put (a := 29) (by decide) (by decide) (by decide)
      have S4 : SvQ (up2 M 0 42 1) M3 k 32 := by rw [e3]; exact (S3.put (a := 30) (by decide) (by decide) (by decide)).put (a := 31) (by decide) (by decide) (by decide)
      have S5 := (S4.put (a := 32) (by decide) (by decide) (by decide)).put (a := 33) (by decide) (by decide) (by decide)
      have S6 := (S5.skip.put (a := 35) (by decide) (by decide) (by decide)).next
      rw [nI_1]
      exact ih (k + 1) _ (by omega) S6
theorem S_save (I : TI M T N W) (hd : 0 < d) (q : ∀ M', SavP M M' → Q (some (vi (nI (live M T).length))) M') : WQ z d j_Mo_save [vr (some 0)] M Q := by
  refine M_save_0 ?_
  rw [← nI_0]
  rw [← I.size] at q
  exact L_save I.2.2.2.2.2.2.2.2.2.2.2.2 hd q 500 0 _ (by decide) ⟨fun r i _ => rfl, fun r i h1 h2 h3 hi => by omega⟩
/-- what a load leaves -/
def LoaP (M M' : MT) : Prop := (∀ r i, 1 ≤ r → r ≤ 8 → i < 500 → M' r i = M (if r = 8 then 35 else r + 26) i) ∧ (∀ r i, 1 ≤ r → r ≤ 8 → 500 ≤ i → M' r i = M r i) ∧ (∀ i, i < 7 → M' 0 (9 + i) = M 34 i) ∧ (∀ j, j < 4 → M' 24 j = 0) ∧ ∀ r i, 9 ≤ r ∨ (r = 0 ∧ (i < 9 ∨ 15 < i)) → r ≠ 24 → M' r i = M r i
def lR (r : Nat) : Nat := if r = 8 then 35 else r + 26
theorem lR_lt {r : Nat} (h : 1 ≤ r) : 27 ≤ lR r := by unfold lR; split <;> omega
def LoQ (M M1 : MT) (k a : Nat) : Prop := (∀ r i, (9 ≤ r ∨ r = 0) → M1 r i = M r i) ∧ (∀ r i, 1 ≤ r → r ≤ 8 → (i < k ∨ (i = k ∧ r < a)) → M1 r i = M (lR r) i) ∧ (∀ r i, 1 ≤ r → r ≤ 8 → ¬ (i < k ∨ (i = k ∧ r < a)) → M1 r i = M r i)
theorem LoQ.put {M M1 : MT} {k a : Nat} (h : LoQ M M1 k a) (h1 : 1 ≤ a) (h2 : a ≤ 8) : LoQ M (up2 M1 a k (M1 (lR a) k)) k (a + 1) := by
  refine ⟨fun r i hr => ?_, fun r i r1 r2 hi => ?_, fun r i r1 r2 hi => ?_⟩
  · rw [up2_ne (by omega)]; exact h.1 r i hr
  · by_cases c : r = a ∧ i = k
    · rw [c.1, c.2, up2_at]; exact h.1 _ _ (Or.inl (by have := lR_lt h1; omega))
    · rw [up2_ne c]; exact h.2.1 r i r1 r2 (by omega)
  · rw [up2_ne (by omega)]; exact h.2.2 r i r1 r2 (by omega)
theorem LoQ.next {M M1 : MT} {k : Nat} (h : LoQ M M1 k 9) : LoQ M M1 (k + 1) 1 := ⟨h.1, fun r i r1 r2 hi => h.2.1 r i r1 r2 (by omega), fun r i r1 r2 hi => h.2.2 r i r1 r2 (by omega)⟩
theorem L_shut (hd : 0 < d) {M0 : MT} (q : ∀ M', (∀ j, j < 4 → M' 24 j = 0) → (∀ r i, r ≠ 24 → M' r i = M0 r i) → Q (some (vi (M0 0 11 - M0 0 12))) M') : ∀ (n k : Nat) (M1 : MT), k + n = 4 → (∀ j, j < k → M1 24 j = 0) → (∀ r i, r ≠ 24 → M1 r i = M0 r i) → WK z d j_Mo_load 202 [some (vr (some 0)), some (vi (nI k))] [] M1 Q := by
  intro n
  induction n with
  | zero =>
    intro k M1 hk h1 h2
    refine M_load_202 ?_
    have e : k = 4 := by omega
    rw [e, if_neg (by decide)]
    refine ⟨hd, M_live_0 (onI_v ?_)⟩
    rw [h2 0 11 (by decide), h2 0 12 (by decide)]
    exact q M1 (fun j hj => h1 j (by omega)) h2
  | succ n ih =>
    intro k M1 hk h1 h2
    refine M_load_202 ?_
    rw [show (4 : Int32) = nI 4 from rfl, if_pos (nI_lt (by omega) (by omega)), nI_clamp (by omega), nI_1]
    refine ⟨ix_nI (by omega) (by decide), ih (k + 1) _ (by omega) (fun j hj => ?_) (fun r i hr => ?_)⟩
    · by_cases c : j = k
      · rw [c, up2_at]
      · rw [up2_ne (by omega)]; exact h1 j (by omega)
    · rw [up2_ne (by omega)]; exact h2 r i hr
theorem L_load (h35 : ∀ i, i < 500 → b01 (M 35 i)) (hd : 0 < d) (q : ∀ M', LoaP M M' → Q (some (vi (M 34 2 - M 34 3))) M') : ∀ (n k : Nat) (M1 : MT), k + n = 500 → LoQ M M1 k 1 → WK z d j_Mo_load 20 [some (vr (some 0)), some (vi (nI k))] [] M1 Q := by
  intro n
  induction n with
  | zero =>
    intro k M1 hk S
    refine M_load_20 ?_
    have e : k = 500 := by omega
    rw [e, if_neg (by decide)]
    rw [e] at S
    have z2 : (2 : Int32).toNatClampNeg = 2 := rfl
    have z3 : (3 : Int32).toNatClampNeg = 3 := rfl
    have z4 : (4 : Int32).toNatClampNeg = 4 := rfl
    have z5 : (5 : Int32).toNatClampNeg = 5 := rfl
    have z6 : (6 : Int32).toNatClampNeg = 6 := rfl
    have z0 : (0 : Int32).toNatClampNeg = 0 := rfl
    have z1 : (1 : Int32).toNatClampNeg = 1 := rfl
    rw [z0, z1]
    refine ⟨(by unfold ix; decide), (by unfold ix; decide), M_load_149 ⟨(by unfold ix; decide), (by unfold ix; decide), fun M3 e3 => ⟨(by unfold ix; decide), (by unfold ix; decide), fun M4 e4 => ⟨(by unfold ix; decide), M_load_200 ?_⟩⟩⟩⟩
    rw [z2, z3] at e3
    rw [z4, z5] at e4
    rw [z6]
    have f2 : ∀ r i, r ≠ 0 ∨ ¬ (9 ≤ i ∧ i ≤ 12) → M3 r i = M1 r i := fun r i h => by rw [e3, up2_ne (by omega), up2_ne (by omega), up2_ne (by omega), up2_ne (by omega)]
    have f3 : ∀ r i, r ≠ 0 ∨ ¬ (9 ≤ i ∧ i ≤ 14) → M4 r i = M1 r i := fun r i h => by rw [e4, up2_ne (by omega), up2_ne (by omega)]; exact f2 r i (by omega)
    have f4 : ∀ r i, r ≠ 0 ∨ ¬ (9 ≤ i ∧ i ≤ 15) → up2 M4 0 15 (M4 34 6) r i = M1 r i := fun r i h => by rw [up2_ne (by omega)]; exact f3 r i (by omega)
    have g0 : ∀ i, M1 34 i = M 34 i := fun i => S.1 34 i (Or.inl (by decide))
    have k9 : up2 M4 0 15 (M4 34 6) 0 9 = M 34 0 := by rw [up2_ne (by decide), e4, up2_ne (by decide), up2_ne (by decide), e3, up2_ne (by decide), up2_ne (by decide), up2_ne (by decide), up2_at]; exact g0 0
    have k10 : up2 M4 0 15 (M4 34 6) 0 10 = M 34 1 := by rw [up2_ne (by decide), e4, up2_ne (by decide), up2_ne (by decide), e3, up2_ne (by decide), up2_ne (by decide), up2_at, up2_ne (by decide)]; exact g0 1
    have k11 : up2 M4 0 15 (M4 34 6) 0 11 = M 34 2 := by rw [up2_ne (by decide), e4, up2_ne (by decide), up2_ne (by decide), e3, up2_ne (by decide), up2_at, up2_ne (by decide), up2_ne (by decide)]; exact g0 2
    have k12 : up2 M4 0 15 (M4 34 6) 0 12 = M 34 3 := by rw [up2_ne (by decide), e4, up2_ne (by decide), up2_ne (by decide), e3, up2_at, up2_ne (by decide), up2_ne (by decide), up2_ne (by decide)]; exact g0 3
    have k13 : up2 M4 0 15 (M4 34 6) 0 13 = M 34 4 := by rw [up2_ne (by decide), e4, up2_ne (by decide), up2_at, f2 34 4 (by decide)]; exact g0 4
    have k14 : up2 M4 0 15 (M4 34 6) 0 14 = M 34 5 := by rw [up2_ne (by decide), e4, up2_at, up2_ne (by decide), f2 34 5 (by decide)]; exact g0 5
    have k15 : up2 M4 0 15 (M4 34 6) 0 15 = M 34 6 := by rw [up2_at, f3 34 6 (by decide)]; exact g0 6
    generalize up2 M4 0 15 (M4 34 6) = M5 at f4 k9 k10 k11 k12 k13 k14 k15
    rw [← nI_0]
    refine L_shut hd (M0 := M5) (fun M' h1 h2 => ?_) 4 0 M5 (by decide) (fun j hj => by omega) (fun r i _ => rfl)
    rw [k11, k12]
    refine q M' ⟨fun r i r1 r2 hi => ?_, fun r i r1 r2 hi => ?_, fun i hi => ?_, h1, fun r i hr h24 => ?_⟩
    · rw [h2 r i (by omega), f4 r i (by omega), S.2.1 r i r1 r2 (Or.inl hi)]; rfl
    · rw [h2 r i (by omega), f4 r i (by omega), S.2.2 r i r1 r2 (by omega)]
    · have : i = 0 ∨ i = 1 ∨ i = 2 ∨ i = 3 ∨ i = 4 ∨ i = 5 ∨ i = 6 := by omega
      rw [h2 0 _ (by decide)]
      rcases this with rfl | rfl | rfl | rfl | rfl | rfl | rfl
      · exact k9
      · exact k10
      · exact k11
      · exact k12
      · exact k13
      · exact k14
      · exact k15
    · rw [h2 r i h24, f4 r i (by omega), S.1 r i (by omega)]
  | succ n ih =>
    intro k M1 hk S
    have xk : ix (nI k) 500 := ix_nI (by omega) (by decide)
    have ck : (nI k).toNatClampNeg = k := nI_clamp (by omega)
    refine M_load_20 ?_
    rw [show (500 : Int32) = nI 500 from rfl, if_pos (nI_lt (by omega) (by omega)), ck]
    have S2 := (S.put (a := 1) (by decide) (by decide)).put (a := 2) (by decide) (by decide)
    refine ⟨xk, xk, xk, xk, M_load_51 ⟨xk, xk, xk, xk, fun M3 e3 => ⟨xk, xk, xk, xk, M_load_99 ⟨xk, xk, xk, xk, ?_, fun M4 e4 => ?_⟩⟩⟩⟩
    · rw [ck] at e3 ⊢
      have S3 : LoQ M M3 k 5 := by rw [e3]; exact (S2.put (a := 3) (by decide) (by decide)).put (a := 4) (by decide) (by decide)
      have S4 := ((S3.put (a := 5) (by decide) (by decide)).put (a := 6) (by decide) (by decide)).put (a := 7) (by decide) (by decide)
      have e8 := S4.1 35 k (Or.inl (by decide))
      have := h35 k (by omega)
      rw [← e8] at this
      exact this
    · rw [ck] at e3 e4
      have S3 : LoQ M M3 k 5 := by rw [e3]; exact (S2.put (a := 3) (by decide) (by decide)).put (a := 4) (by decide) (by decide)
      have S4 := ((S3.put (a := 5) (by decide) (by decide)).put (a := 6) (by decide) (by decide)).put (a := 7) (by decide) (by decide)
      have S5 : LoQ M M4 k 9 := by rw [e4]; exact S4.put (a := 8) (by decide) (by decide)
      rw [nI_1]
      exact ih (k + 1) _ (by omega) S5.next
theorem S_load (h42 : b01 (M 0 42)) (h35 : M 0 42 = 1 → ∀ i, i < 500 → b01 (M 35 i)) (hd : 0 < d) (q1 : M 0 42 = 0 → Q (some (vi 0)) (thn M 1)) (q2 : M 0 42 = 1 → ∀ M', LoaP (thn M 0) M' → Q (some (vi (M 34 2 - M 34 3))) M') : WQ z d j_Mo_load [vr (some 0)] M Q := by
  refine M_load_0 ?_
  have e : up2 M 0 0 0 0 42 = M 0 42 := up2_ne (by decide)
  rw [e]
  rcases h42 with h | h
  · rw [if_pos h]
    exact S_fails' (by omega) (q1 h)
  · rw [if_neg (by rw [h]; decide), ← nI_0]
    have h35 := h35 h
    have q := q2 h
    rw [show M 34 2 = thn M 0 34 2 from (thn_ne (by decide)).symm, show M 34 3 = thn M 0 34 3 from (thn_ne (by decide)).symm] at q
    exact L_load (M := thn M 0) (fun i hi => by rw [thn_ne (by decide)]; exact h35 i hi) hd q 500 0 _ (by decide) ⟨fun r i _ => rfl, fun r i h1 h2 hi => by omega, fun r i _ _ _ => rfl⟩
end SAVE
