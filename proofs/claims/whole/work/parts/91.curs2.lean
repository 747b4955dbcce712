/-! ===== cursors of the reference: open, hasNext, next, removeCurrent ===== -/
/-- what the reference's cursors hold -/
def CP (M : MT) (N nf : Nat) : Prop := ∀ k, k < 4 → M 24 k = 0 ∨ (M 24 k = 1 ∧ ∃ f lst, f < nf ∧ M 25 k = nI f ∧ M 26 k = idI lst ∧ ∀ j, lst = some j → j < N)
theorem CU.cp {g : AHp} {c Cs : Nat} {cu : Nat → Nat} {K : MT} {N nf : Nat} (U : CU g c Cs cu K N nf) : CP K N nf := by
  intro k hk4
  rcases U.2.2.2 k hk4 with h | ⟨h, f, lst, h1, h2, h3, h4, L⟩
  · exact Or.inl h
  · exact Or.inr ⟨h, f, lst, h1, h3, h4, fun j hj => (L.2 j hj).1⟩
theorem idI_inj {a b : Option Nat} (ha : ∀ j, a = some j → j < 500) (hb : ∀ j, b = some j → j < 500) (h : idI a = idI b) : a = b := by
  cases a with
  | none => cases b with
    | none => rfl
    | some j => exact (nI_m1 (by have := hb j rfl; omega) h.symm).elim
  | some i => cases b with
    | none => exact (nI_m1 (by have := ha i rfl; omega) h).elim
    | some j => rw [nI_inj (ha i rfl) (hb j rfl) h]
def opM (M : MT) (k f : Nat) : MT := up2 (up2 (up2 (thn M 0) 24 k 1) 25 k (nI f)) 26 k (-1)
theorem opM_ne {M : MT} {k f r i : Nat} (h0 : r ≠ 0) (h1 : r ≠ 24) (h2 : r ≠ 25) (h3 : r ≠ 26) : opM M k f r i = M r i := by
  unfold opM; rw [up2_ne (by omega), up2_ne (by omega), up2_ne (by omega), thn_ne h0]
theorem opM_0 {M : MT} {k f i : Nat} (h : i ≠ 0) : opM M k f 0 i = M 0 i := by
  unfold opM; rw [up2_ne (by omega), up2_ne (by omega), up2_ne (by omega)]; exact up2_ne (by omega)
section CURS2
variable {z : Nat × Nat} {d : Nat} {M : MT} {Q : Option AV → MT → Prop} {T : Tr} {N : Nat} {W : Int} {x y : Int32} {FL : Nat → List SP} {nf : Nat}
theorem TI_op {k f : Nat} (I : TI M T N W) : TI (opM M k f) T N W := TI_congr (fun r i h1 h2 => opM_ne (by omega) (by omega) (by omega) (by omega)) (fun i h1 h2 => opM_0 (by omega)) I
theorem RFs.congr {M' : MT} (h : RFs M FL nf) (e : M' 0 24 = M 0 24) (E : ∀ a k, 14 ≤ a → a ≤ 21 → M' a k = M a k) : RFs M' FL nf :=
  ⟨h.1, e.trans h.2.1, fun f hf => ⟨(h.2.2 f hf).1, (h.2.2 f hf).2.congr E⟩⟩
theorem folP_congr {M' : MT} {l : List Nat} {f : Nat} {lst : Option Nat} (h : ∀ r k, 1 ≤ r → r ≤ 3 → M' r k = M r k) : folP M' l FL f lst = folP M l FL f lst := by
  funext a
  unfold folP
  rw [tk_congr h]
  cases lst with
  | none => rfl
  | some j => show (lessB M' j a && _) = (lessB M j a && _); unfold lessB; rw [h 1 j (by decide) (by decide), h 1 a (by decide) (by decide), h 2 j (by decide) (by decide), h 2 a (by decide) (by decide)]
theorem S_open (I : TI M T N W) (hF : RFs M FL nf) (hd : 21 < d) (q1 : ¬ (ix x 4 ∧ ix y nf) → Q (some (vi 0)) (thn M 1)) (q2 : ∀ k f, k < 4 → x = nI k → f < nf → y = nI f → ∀ M2, E22 (opM M k f) M2 → Q (some (vi (idI ((live M T).find? (folP M (live M T) FL f none))))) M2) : WQ z d j_Mo_open [vr (some 0), vi x, vi y] M Q := by
  have h8 := hF.1
  have F0 := RFs_thn (k := 0) hF
  refine M_open_0 ⟨by omega, S_isCursor (by omega) (fun h4 => onI_1 ⟨by omega, S_isFilter F0.2.1 F0.1 (by omega) (fun h => onI_1 ?_) (fun h => onI_0 (S_fails' (by omega) (q1 (fun z => h z.2))))⟩) (fun h => onI_0 (S_fails' (by omega) (q1 (fun z => h z.1))))⟩
  refine ⟨h4, h4, fun M14 e => ⟨h4, by omega, ?_⟩⟩
  obtain ⟨k, hk4, rfl⟩ := ix_ex h4 (by decide)
  obtain ⟨f, hf, rfl⟩ := ix_ex h (by omega)
  rw [nI_clamp (by omega)] at e ⊢
  have e2 : up2 M14 26 k (-1) = opM M k f := by rw [e]; rfl
  rw [e2]
  refine S_fol (f := f) (lst := none) (TI_op I) (hF.congr (opM_0 (by decide)) (fun a k h1 h2 => opM_ne (by omega) (by omega) (by omega) (by omega))) hf hk4 (by omega) (by unfold opM; rw [up2_ne (by omega), up2_at]) (by unfold opM; rw [up2_at]; rfl) (fun j hj => by cases hj) (fun M2 E2 => onI_v ?_)
  rw [live_E (fun k => opM_ne (by decide) (by decide) (by decide) (by decide)), folP_congr (fun r k h1 h2 => opM_ne (by omega) (by omega) (by omega) (by omega))]
  exact q2 k f hk4 rfl hf rfl M2 E2
theorem S_hasNext (I : TI M T N W) (hF : RFs M FL nf) (hC : CP M N nf) (hd : 21 < d) (q1 : ¬ ix x 4 → Q (some (vi 0)) (thn M 1)) (q2 : ∀ k, k < 4 → x = nI k → M 24 k = 0 → Q (some (vi 0)) (thn M 2)) (q3 : ∀ k f lst, k < 4 → x = nI k → M 24 k = 1 → f < nf → M 25 k = nI f → M 26 k = idI lst → (∀ j, lst = some j → j < N) → ∀ M2, E22 (thn M 0) M2 → Q (some (vi (if (live M T).find? (folP M (live M T) FL f lst) = none then 0 else 1))) M2) : WQ z d j_Mo_hasNext [vr (some 0), vi x] M Q := by
  have h8 := hF.1
  have hN := I.2.1
  have F0 := RFs_thn (k := 0) hF
  refine M_hasNext_0 ⟨by omega, S_isCursor (by omega) (fun h4 => onI_1 ⟨h4, ?_⟩) (fun h => onI_0 (fails_b (by omega) (q1 h)))⟩
  obtain ⟨k, hk4, rfl⟩ := ix_ex h4 (by decide)
  rw [nI_clamp (by omega), up2_ne (by omega)]
  rcases hC k hk4 with h0 | ⟨h1, f, lst, hf, e25, e26, hl⟩
  · rw [if_pos h0]; exact fails_b (by omega) (q2 k hk4 rfl h0)
  · rw [if_neg (by rw [h1]; decide)]
    refine ⟨by omega, S_fol (f := f) (lst := lst) (TI_thn I) F0 hf hk4 (by omega) ((thn_ne (by decide)).trans e25) ((thn_ne (by decide)).trans e26) (fun j hj => by have := hl j hj; omega) (fun M2 E2 => onI_v ?_)⟩
    have q := q3 k f lst hk4 rfl h1 hf e25 e26 hl M2 E2
    rw [live_thn, folP_congr (fun r k h1 h2 => thn_ne (by omega))]
    cases ef : (live M T).find? (folP M (live M T) FL f lst) with
    | none => rw [ef, if_pos rfl] at q; rw [if_pos (by rfl)]; exact q
    | some i =>
      rw [ef, if_neg (by simp)] at q
      have := ((I.mem_live i).mp (find_in ef)).1
      rw [if_neg (show ¬ idI (some i) = -1 from nI_m1 (by omega))]; exact q
theorem S_next (I : TI M T N W) (hF : RFs M FL nf) (hC : CP M N nf) (hd : 21 < d) (q1 : ¬ ix x 4 → Q (some (vi 0)) (thn M 1)) (q2 : ∀ k, k < 4 → x = nI k → M 24 k = 0 → Q (some (vi 0)) (thn M 2))
    (q3 : ∀ k f lst, k < 4 → x = nI k → M 24 k = 1 → f < nf → M 25 k = nI f → M 26 k = idI lst → (∀ j, lst = some j → j < N) → (live M T).find? (folP M (live M T) FL f lst) = none → ∀ M2, E22 (thn M 0) M2 → Q (some (vi 0)) (thn M2 3))
    (q4 : ∀ k f lst i, k < 4 → x = nI k → M 24 k = 1 → f < nf → M 25 k = nI f → M 26 k = idI lst → (∀ j, lst = some j → j < N) → (live M T).find? (folP M (live M T) FL f lst) = some i → ∀ M2, E22 (thn M 0) M2 → Q (some (vi (nI i))) (up2 M2 26 k (nI i))) : WQ z d j_Mo_next [vr (some 0), vi x] M Q := by
  have h8 := hF.1
  have hN := I.2.1
  have F0 := RFs_thn (k := 0) hF
  refine M_next_0 ⟨by omega, S_isCursor (by omega) (fun h4 => onI_1 ⟨h4, ?_⟩) (fun h => onI_0 (S_fails' (by omega) (q1 h)))⟩
  obtain ⟨k, hk4, rfl⟩ := ix_ex h4 (by decide)
  rw [nI_clamp (by omega), up2_ne (by omega)]
  rcases hC k hk4 with h0 | ⟨h1, f, lst, hf, e25, e26, hl⟩
  · rw [if_pos h0]; exact S_fails' (by omega) (q2 k hk4 rfl h0)
  · rw [if_neg (by rw [h1]; decide)]
    refine ⟨by omega, S_fol (f := f) (lst := lst) (TI_thn I) F0 hf hk4 (by omega) ((thn_ne (by decide)).trans e25) ((thn_ne (by decide)).trans e26) (fun j hj => by have := hl j hj; omega) (fun M2 E2 => onI_v ?_)⟩
    rw [live_thn, folP_congr (fun r k h1 h2 => thn_ne (by omega))]
    cases ef : (live M T).find? (folP M (live M T) FL f lst) with
    | none => rw [if_pos (by rfl)]; exact ⟨by omega, M_fails_0 (q3 k f lst hk4 rfl h1 hf e25 e26 hl ef M2 E2)⟩
    | some i =>
      have := ((I.mem_live i).mp (find_in ef)).1
      rw [if_neg (show ¬ idI (some i) = -1 from nI_m1 (by omega))]
      exact ⟨h4, q4 k f lst i hk4 rfl h1 hf e25 e26 hl ef M2 E2⟩
theorem S_removeCurrent (I : TI M T N W) (hC : CP M N nf) (hd : 14 < d) (q1 : ¬ ix x 4 → Q (some (vi 0)) (thn M 1)) (q2 : ∀ k, k < 4 → x = nI k → M 24 k = 0 → Q (some (vi 0)) (thn M 2))
    (q3 : ∀ k, k < 4 → x = nI k → M 24 k = 1 → (∀ j, j < N → M 26 k = nI j → ¬ M 4 j = 0) → Q (some (vi 0)) (thn M 2))
    (q4 : ∀ k i, k < 4 → x = nI k → M 24 k = 1 → M 26 k = nI i → i ∈ live M T → ¬ due (rmM (thn M 0) i) → Q (some (vi (nI (live (rmM (thn M 0) i) T).length))) (rmM (thn M 0) i))
    (q5 : ∀ k i, k < 4 → x = nI k → M 24 k = 1 → M 26 k = nI i → i ∈ live M T → due (rmM (thn M 0) i) → ∀ M', RebP (rmM (thn M 0) i) M' N (live (rmM (thn M 0) i) T) → TI M' (bt 7 (live (rmM (thn M 0) i) T)) N W → Q (some (vi (nI (live (rmM (thn M 0) i) T).length))) M') : WQ z d j_Mo_removeCurrent [vr (some 0), vi x] M Q := by
  have hN := I.2.1
  have I0 : TI (thn M 0) T N W := TI_thn I
  refine M_removeCurrent_0 ⟨by omega, S_isCursor (by omega) (fun h4 => onI_1 ⟨h4, ?_⟩) (fun h => onI_0 (S_fails' (by omega) (q1 h)))⟩
  obtain ⟨k, hk4, rfl⟩ := ix_ex h4 (by decide)
  rw [nI_clamp (by omega), up2_ne (by omega), up2_ne (by omega)]
  rcases hC k hk4 with h0 | ⟨h1, f, lst, hf, e25, e26, hl⟩
  · rw [if_pos h0]; exact S_fails' (by omega) (q2 k hk4 rfl h0)
  · rw [if_neg (by rw [h1]; decide)]
    refine ⟨h4, ?_⟩
    cases e : lst with
    | none =>
      rw [e] at e26
      rw [e26, if_pos (by rfl)]
      exact S_fails' (by omega) (q3 k hk4 rfl h1 (fun j hj ej => by rw [e26] at ej; exact (nI_m1 (by omega) ej.symm).elim))
    | some j =>
      have hj := hl j e
      have e26 : M 26 k = nI j := by rw [e26, e]; rfl
      rw [e26, if_neg (nI_m1 (by omega)), nI_clamp (by omega), up2_ne (by omega)]
      refine ⟨h4, ix_nI (by omega) (by decide), ?_⟩
      by_cases h0 : M 4 j = 0
      · rw [if_pos h0]
        have hlv : j ∈ live M T := (I.mem_live j).mpr ⟨hj, h0⟩
        exact ⟨h4, by omega, S_goes I0 (by omega) (by rw [live_thn]; exact hlv) (fun h => onI_v (q4 k j hk4 rfl h1 e26 hlv h)) (fun h M' P I' => onI_v (q5 k j hk4 rfl h1 e26 hlv h M' P I'))⟩
      · rw [if_neg h0]
        exact S_fails' (by omega) (q3 k hk4 rfl h1 (fun j' hj' ej => by rw [e26] at ej; rw [← nI_inj (by omega) (by omega) ej]; exact h0))
theorem S_subtreeHigh (I : TI M T N W) (hd : 17 < d) (q1 : ¬ (ix x N ∧ M 4 x.toNatClampNeg < 2) → Q (some (vi 0)) (thn M 1)) (q2 : ∀ i, i ∈ ino T → x = nI i → szS M T i = 0 → Q (some (vi 0)) (thn M 2)) (q3 : ∀ i, i ∈ ino T → x = nI i → ¬ szS M T i = 0 → Q (some (vi (grS M T 1 i))) (up2 (thn M 0) 0 20 (grS M T 1 i))) : WQ z d j_Mo_subtreeHigh [vr (some 0), vi x] M Q :=
  M_subtreeHigh_0 ⟨by omega, S_greatestOf I (by omega) (fun h => onI_v (q1 h)) (fun i h1 h2 h3 => onI_v (q2 i h1 h2 h3)) (fun i h1 h2 h3 => onI_v (q3 i h1 h2 h3))⟩
theorem S_subtreeWeight (I : TI M T N W) (hd : 17 < d) (q1 : ¬ (ix x N ∧ M 4 x.toNatClampNeg < 2) → Q (some (vi 0)) (thn M 1)) (q2 : ∀ i, i ∈ ino T → x = nI i → szS M T i = 0 → Q (some (vi 0)) (thn M 2)) (q3 : ∀ i, i ∈ ino T → x = nI i → ¬ szS M T i = 0 → Q (some (vi (grS M T 0 i))) (up2 (thn M 0) 0 20 (grS M T 0 i))) : WQ z d j_Mo_subtreeWeight [vr (some 0), vi x] M Q :=
  M_subtreeWeight_0 ⟨by omega, S_greatestOf I (by omega) (fun h => onI_v (q1 h)) (fun i h1 h2 h3 => onI_v (q2 i h1 h2 h3)) (fun i h1 h2 h3 => onI_v (q3 i h1 h2 h3))⟩
end CURS2
