/-! ===== the reference's filters, asked ===== -/
def stp (w b n : Int32) : SP := if w = 33 then (3, 0, 0, 0) else if w = 38 then (4, 0, 0, 0) else if w = 124 then (5, 0, 0, 0) else if w = 35 then (2, n, 0, 0) else (0, w, if b = 60 then -2147483648 else if b = 61 then n else n + 1, if b = 60 then n - 1 else if b = 61 then n else 2147483647)
def cmb (kd : Int32) (r1 r2 : Nat) : List SP := if kd = 0 then [(2, nI r1, 0, 0), (2, nI r2, 0, 0), (4, 0, 0, 0)] else if kd = 1 then [(2, nI r1, 0, 0), (2, nI r2, 0, 0), (5, 0, 0, 0)] else [(2, nI r1, 0, 0), (2, nI r2, 0, 0), (3, 0, 0, 0), (4, 0, 0, 0)]
def prt (M : MT) (f k : Nat) : SP := stp (M 19 (60 * f + k)) (M 20 (60 * f + k)) (M 21 (60 * f + k))
def RF (M : MT) (FL : Nat → List SP) (f : Nat) : Prop :=
  (M 14 f = 0 ∧ FL f = [(0, 3, -2147483648, 2147483647)]) ∨ (M 14 f = 1 ∧ FL f = [(0, 3, 0, 0)]) ∨ (M 14 f = 2 ∧ FL f = [(1, 0, 0, 0)]) ∨ (M 14 f = 3 ∧ FL f = [(0, M 15 f, M 16 f, M 17 f)]) ∨
  (M 14 f = 4 ∧ FL f = [(0, 2, M 15 f + 1, 2147483647)] ∧ (M 15 f).toInt < 2147483647) ∨ (M 14 f = 5 ∧ ∃ r1 r2, r1 < f ∧ r2 < f ∧ M 16 f = nI r1 ∧ M 17 f = nI r2 ∧ FL f = cmb (M 15 f) r1 r2) ∨
  (M 14 f = 6 ∧ ∃ n, n ≤ 60 ∧ M 18 f = nI n ∧ FL f = (List.range' 0 n).map (prt M f) ∧ ∀ k, k < n → -10000 < (M 21 (60 * f + k)).toInt ∧ (M 21 (60 * f + k)).toInt < 10000)
def E22 (M M' : MT) : Prop := ∀ a k, a ≠ 22 → M' a k = M a k
theorem E22.refl {M : MT} : E22 M M := fun _ _ _ => rfl
theorem E22.trans {M M1 M2 : MT} (h1 : E22 M M1) (h2 : E22 M1 M2) : E22 M M2 := fun a k h => (h2 a k h).trans (h1 a k h)
theorem E22.up {M M1 : MT} {k : Nat} {v : Int32} (h : E22 M M1) : E22 M (up2 M1 22 k v) := fun a j c => (up2_ne (fun q => c q.1)).trans (h a j c)
def StkM (M : MT) (b : Nat) : List Bool → Prop
  | [] => True
  | v :: r => M 22 (b + r.length) = bi v ∧ StkM M b r
theorem StkM_congr {M M' : MT} {b : Nat} : ∀ {st : List Bool}, StkM M b st → (∀ k, b ≤ k → k < b + st.length → M' 22 k = M 22 k) → StkM M' b st := by
  intro st
  induction st with
  | nil => intro _ _; trivial
  | cons v r ih =>
    intro h e
    rw [List.length_cons] at e
    exact ⟨(e _ (by omega) (by omega)).trans h.1, ih h.2 (fun k h1 h2 => e k h1 (by omega))⟩
theorem StkM_set {M : MT} {b : Nat} {v : Bool} {r : List Bool} (h : StkM M b r) : StkM (up2 M 22 (b + r.length) (bi v)) b (v :: r) :=
  ⟨up2_at, StkM_congr h (fun k h1 h2 => up2_ne (by omega))⟩
theorem bi_0 {b : Bool} : bi b = 0 ↔ b = false := by cases b <;> decide
theorem nI_60 {f : Nat} (h : f < 8) : nI f * 60 = nI (60 * f) := by
  have : ∀ f : Fin 8, nI f.val * 60 = nI (60 * f.val) := by decide
  exact this ⟨f, h⟩
theorem nI_mm {n : Nat} (h : 0 < n) : nI n - 1 = nI (n - 1) := nI_sub (b := 1) h
theorem nI_mp {n : Nat} (h : 0 < n) : nI n + (-1) = nI (n - 1) := by rw [← nI_mm h, Int32.sub_eq_add_neg]
theorem nI_ad {a b : Nat} : nI a + nI b = nI (a + b) := by
  have := nI_sub (a := a + b) (b := b) (by omega)
  rw [Nat.add_sub_cancel] at this
  rw [← this, Int32.sub_add_cancel]
section FILR
variable {z : Nat × Nat} {d : Nat} {M : MT} {Q : Option AV → MT → Prop} {T : Tr} {N : Nat} {W : Int} {x y : Int32} {FL : Nat → List SP} {nf : Nat}
theorem ovA_iff (I : TI M T N W) {i : Nat} : ovA M (live M T) i = true ↔ ∃ o, o < N ∧ M 4 o = 0 ∧ o ≠ i ∧ (M 1 o).toInt ≤ (M 2 i).toInt ∧ (M 1 i).toInt ≤ (M 2 o).toInt := by
  unfold ovA
  rw [List.any_eq_true]
  constructor
  · rintro ⟨o, h1, h2⟩
    have h2 := of_decide_eq_true h2
    have h1 := (I.mem_live o).mp h1
    exact ⟨o, h1.1, h1.2, h2⟩
  · rintro ⟨o, h1, h2, h3⟩
    exact ⟨o, (I.mem_live o).mpr ⟨h1, h2⟩, decide_eq_true h3⟩
theorem L_oA (I : TI M T N W) {M1 : MT} (E : E22 M M1) (hd : 0 < d) {i : Nat} (hi : i < 500) (q : Q (some (vi (bi (ovA M (live M T) i)))) M1) : ∀ (n k : Nat), k + n = N → (∀ o, o < k → ¬ (M 4 o = 0 ∧ o ≠ i ∧ (M 1 o).toInt ≤ (M 2 i).toInt ∧ (M 1 i).toInt ≤ (M 2 o).toInt)) → WK z d j_Mo_overlapsAny 2 [some (vr (some 0)), some (vi (nI i)), some (vi (nI k))] [] M1 Q := by
  have hN := I.2.1
  intro n
  induction n with
  | zero =>
    intro k hk hno
    refine M_overlapsAny_2 ?_
    rw [E 0 10 (by decide), I.1, if_neg (nI_nlt (by omega) (by omega))]
    have e : ovA M (live M T) i = false := by
      cases h : ovA M (live M T) i with
      | false => rfl
      | true => obtain ⟨o, h1, h2⟩ := (ovA_iff I).mp h; exact (hno o (by omega) h2).elim
    rw [e] at q; exact q
  | succ n ih =>
    intro k hk hno
    refine M_overlapsAny_2 ?_
    rw [E 0 10 (by decide), I.1, if_pos (nI_lt (by omega) (by omega)), nI_clamp (by omega), nI_clamp (by omega), nI_1, E 4 _ (by decide), E 1 _ (by decide), E 2 _ (by decide)]
    have nx : ¬ (M 4 k = 0 ∧ k ≠ i ∧ (M 1 k).toInt ≤ (M 2 i).toInt ∧ (M 1 i).toInt ≤ (M 2 k).toInt) → WK z d j_Mo_overlapsAny 2 [some (vr (some 0)), some (vi (nI i)), some (vi (nI (k + 1)))] [] M1 Q := fun h => ih (k + 1) (by omega) (fun o ho => by
      by_cases e : o = k
      · subst e; exact h
      · exact hno o (by omega))
    split
    · rename_i e
      have : k = i := nI_inj (by omega) hi e
      exact nx (fun z => z.2.1 this)
    · rename_i e
      refine ⟨ix_nI (by omega) (by decide), ?_⟩
      split
      · rename_i e4
        refine ⟨ix_nI (by omega) (by decide), ix_nI (by omega) (by decide), hd, S_overlaps (by omega) ?_ ?_⟩
        · intro c1 c2
          rw [E 1 _ (by decide)] at c1; rw [E 2 _ (by decide)] at c2
          refine onI_1 ?_
          rw [(ovA_iff I).mpr ⟨k, by omega, e4, fun z => e (by rw [z]), c1, c2⟩] at q; exact q
        · intro c1
          rw [E 1 _ (by decide), E 2 _ (by decide)] at c1
          exact onI_0 (nx (fun z => c1 z.2.2))
      · rename_i e4; exact nx (fun z => e4 z.1)
theorem S_propF {M1 : MT} (E : E22 M M1) {i : Nat} (hi : i < 500) (q : Q (some (vi (fval M i y))) M1) : WQ z d j_Mo_propertyOf [vr (some 0), vi (nI i), vi y] M1 Q := by
  refine M_propertyOf_0 ?_
  rw [nI_clamp (by omega), E 1 _ (by decide), E 2 _ (by decide), E 3 _ (by decide)]
  have hx := ix_nI (N := 500) hi (by decide)
  unfold fval at q
  split
  · rename_i e; rw [if_pos e] at q; exact ⟨hx, q⟩
  · rename_i e; rw [if_neg e] at q
    split
    · rename_i e; rw [if_pos e] at q; exact ⟨hx, q⟩
    · rename_i e; rw [if_neg e] at q
      split
      · rename_i e; rw [if_pos e] at q; exact ⟨hx, q⟩
      · rename_i e; rw [if_neg e] at q; exact ⟨hx, hx, q⟩
theorem S_cmp {v b n w : Int32} {i : Nat} (hw : ¬ w = 33 ∧ ¬ w = 38 ∧ ¬ w = 124 ∧ ¬ w = 35) (hv : v = fval M i w) (hn : -10000 < n.toInt ∧ n.toInt < 10000) {M1 : MT} (q : Q (some (vi (bi (inr M i (stp w b n))))) M1) : WQ z d j_Mo_isCompared [vr (some 0), vi v, vi b, vi n] M1 Q := by
  refine M_isCompared_0 ?_
  have rg := i_rng v
  have e1 : (n - 1).toInt = n.toInt - 1 := by rw [i_sub (by rw [i_1]; omega) (by rw [i_1]; omega), i_1]
  have e2 : (n + 1).toInt = n.toInt + 1 := by rw [i_add (by rw [i_1]; omega) (by rw [i_1]; omega), i_1]
  have e0 : stp w b n = (0, w, if b = 60 then -2147483648 else if b = 61 then n else n + 1, if b = 60 then n - 1 else if b = 61 then n else 2147483647) := by unfold stp; rw [if_neg hw.1, if_neg hw.2.1, if_neg hw.2.2.1, if_neg hw.2.2.2]
  rw [e0] at q
  unfold inr at q
  simp only [← hv] at q
  have m1 : (-2147483648 : Int32).toInt = -2147483648 := rfl
  have m2 : (2147483647 : Int32).toInt = 2147483647 := rfl
  split
  · rename_i c; rw [if_pos c, if_pos c, m1, e1] at q
    split
    · rename_i c; rw [i_lt] at c; rw [decide_eq_true (by omega)] at q; exact q
    · rename_i c; rw [i_lt] at c; rw [decide_eq_false (by omega)] at q; exact q
  · rename_i c; rw [if_neg c, if_neg c] at q
    split
    · rename_i c; rw [if_pos c, if_pos c] at q
      split
      · rename_i c; rw [i_eq] at c; rw [decide_eq_true (by omega)] at q; exact q
      · rename_i c; rw [i_eq] at c; rw [decide_eq_false (by omega)] at q; exact q
    · rename_i c; rw [if_neg c, if_neg c, m2, e2] at q
      split
      · rename_i c; rw [i_lt] at c; rw [decide_eq_true (by omega)] at q; exact q
      · rename_i c; rw [i_lt] at c; rw [decide_eq_false (by omega)] at q; exact q
end FILR
