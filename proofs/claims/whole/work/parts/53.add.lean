/-! ===== the chain, and the class's add ===== -/
def hdE (l : List Nat) (e : Int32) : Int32 := match l with
  | [] => e
  | x :: _ => nI x
/-- the nodes of l stand behind p and before e -/
def Sg (K : MT) : Int32 → List Nat → Int32 → Prop
  | _, [], _ => True
  | p, i :: l, e => K 40 i = p ∧ K 41 i = hdE l e ∧ Sg K (nI i) l e
def laE : Int32 → List Nat → Int32
  | p, [] => p
  | _, i :: l => laE (nI i) l
def CH (K : MT) (L : List Nat) : Prop := K 43 0 = hdI L ∧ K 43 1 = laI L ∧ Sg K (-1) L (-1)
theorem hdE_hdI {l : List Nat} : hdE l (-1) = hdI l := by cases l <;> rfl
theorem laE_app : ∀ {p : Int32} {l : List Nat} {x : Nat}, laE p (l ++ [x]) = nI x := by
  intro p l
  induction l generalizing p with
  | nil => intro x; rfl
  | cons a l ih => intro x; exact ih
theorem laE_laI {l : List Nat} : laE (-1) l = laI l := by
  rcases List.eq_nil_or_concat l with rfl | ⟨a, x, rfl⟩
  · rfl
  · rw [List.concat_eq_append, laE_app, laI_app]
theorem Sg_app {K : MT} : ∀ {A B : List Nat} {p e : Int32}, Sg K p (A ++ B) e ↔ Sg K p A (hdE B e) ∧ Sg K (laE p A) B e := by
  intro A
  induction A with
  | nil => intro B p e; exact ⟨fun h => ⟨trivial, h⟩, fun h => h.2⟩
  | cons i A ih =>
    intro B p e
    have h1 : hdE (A ++ B) e = hdE A (hdE B e) := by cases A <;> rfl
    show (K 40 i = p ∧ K 41 i = hdE (A ++ B) e ∧ Sg K (nI i) (A ++ B) e) ↔ (K 40 i = p ∧ K 41 i = hdE A (hdE B e) ∧ Sg K (nI i) A (hdE B e)) ∧ Sg K (laE (nI i) A) B e
    rw [h1, ih]
    exact ⟨fun h => ⟨⟨h.1, h.2.1, h.2.2.1⟩, h.2.2.2⟩, fun h => ⟨h.1.1, h.1.2.1, h.1.2.2, h.2⟩⟩
theorem Sg_congr {K K' : MT} : ∀ {l : List Nat} {p e : Int32}, (∀ i ∈ l, K' 40 i = K 40 i ∧ K' 41 i = K 41 i) → Sg K p l e → Sg K' p l e := by
  intro l
  induction l with
  | nil => intro p e _ _; trivial
  | cons i l ih =>
    intro p e h ⟨a, b, c⟩
    have := h i List.mem_cons_self
    exact ⟨this.1.trans a, this.2.trans b, ih (fun j hj => h j (List.mem_cons_of_mem _ hj)) c⟩
theorem CH.at {K : MT} {A B : List Nat} {i : Nat} (h : CH K (A ++ i :: B)) : K 40 i = laI A ∧ K 41 i = hdI B := by
  have := (Sg_app.mp h.2.2).2
  rw [laE_laI] at this
  exact ⟨this.1, this.2.1.trans hdE_hdI⟩
theorem CH.congr {K K' : MT} {L : List Nat} (h : CH K L) (h1 : ∀ i ∈ L, K' 40 i = K 40 i ∧ K' 41 i = K 41 i) (h2 : K' 43 0 = K 43 0) (h3 : K' 43 1 = K 43 1) : CH K' L :=
  ⟨h2.trans h.1, h3.trans h.2.1, Sg_congr h1 h.2.2⟩
theorem Sg_last {K K' : MT} {A : List Nat} {x : Nat} {p e e' : Int32} (h : Sg K p (A ++ [x]) e) (h1 : ∀ i ∈ A, K' 40 i = K 40 i ∧ K' 41 i = K 41 i) (h2 : K' 40 x = K 40 x) (h3 : K' 41 x = e') : Sg K' p (A ++ [x]) e' := by
  obtain ⟨a, b⟩ := Sg_app.mp h
  exact Sg_app.mpr ⟨Sg_congr h1 a, h2.trans b.1, h3, trivial⟩
theorem CH_ins {K : MT} {A B : List Nat} {n : Nat} (h : CH K (A ++ B)) (hn : n ∉ A ++ B) (hd : (A ++ B).Nodup) (hb : ∀ x ∈ A ++ B, x < 500) : CH (chM K (laI A) n (hdI B)) (A ++ n :: B) := by
  obtain ⟨h1, h2, h3⟩ := h
  obtain ⟨s1, s2⟩ := Sg_app.mp h3
  rw [laE_laI] at s2
  have nA : n ∉ A := fun c => hn (List.mem_append_left _ c)
  have nB : n ∉ B := fun c => hn (List.mem_append_right _ c)
  have hAB := (List.nodup_append.mp hd).2.2
  -- what is written
  have wA : ∀ i ∈ A, chM K (laI A) n (hdI B) 40 i = K 40 i ∧ (nI i ≠ laI A → chM K (laI A) n (hdI B) 41 i = K 41 i) ∧ (nI i = laI A → chM K (laI A) n (hdI B) 41 i = nI n) := by
    intro i hi
    have hin : i ≠ n := fun c => nA (c ▸ hi)
    have i5 := hb i (List.mem_append_left _ hi)
    have hiB : nI i ≠ hdI B := by
      cases B with
      | nil => exact nI_m1 (by omega)
      | cons y ys => exact fun c => hAB i hi y List.mem_cons_self (nI_inj i5 (hb y (List.mem_append_right _ List.mem_cons_self)) c)
    have cC : ∀ (X : MT) r, chC X n (hdI B) r i = X r i ∨ (r = 43 ∧ i = 1) := by
      intro X r
      unfold chC
      cases B with
      | nil => rw [if_pos (show hdI [] = (-1 : Int32) from rfl)]; by_cases c : r = 43 ∧ i = 1
               · exact Or.inr c
               · exact Or.inl (up2_ne c)
      | cons y ys =>
        have y5 := hb y (List.mem_append_right _ List.mem_cons_self)
        rw [show hdI (y :: ys) = nI y from rfl, if_neg (nI_m1 (by omega)), nI_clamp (by omega)]
        exact Or.inl (up2_ne (fun c => hiB (by rw [c.2]; rfl)))
    have c40 : chM K (laI A) n (hdI B) 40 i = chB (chA K (laI A) n (hdI B)) (laI A) n 40 i := (cC _ 40).resolve_right (by omega)
    have c41 : chM K (laI A) n (hdI B) 41 i = chB (chA K (laI A) n (hdI B)) (laI A) n 41 i := (cC _ 41).resolve_right (by omega)
    have a40 : chA K (laI A) n (hdI B) 40 i = K 40 i := by unfold chA; rw [up2_ne (by omega), up2_ne (by omega)]
    have a41 : chA K (laI A) n (hdI B) 41 i = K 41 i := by unfold chA; rw [up2_ne (by omega), up2_ne (by omega)]
    rw [c40, c41]
    rcases List.eq_nil_or_concat A with rfl | ⟨A1, x, rfl⟩
    · cases hi
    · rw [List.concat_eq_append] at hi a40 a41 hb ⊢
      have x5 := hb x (List.mem_append_left _ (List.mem_append_right _ List.mem_cons_self))
      unfold chB
      rw [laI_app] at a40 a41 ⊢
      rw [if_neg (nI_m1 (by omega)), nI_clamp (by omega)]
      refine ⟨by rw [up2_ne (by omega)]; exact a40, fun c => ?_, fun c => ?_⟩
      · have : i ≠ x := fun e => c (by rw [e])
        rw [up2_ne (by omega)]; exact a41
      · rw [nI_inj i5 x5 c, up2_at]
  have wB : ∀ i ∈ B, chM K (laI A) n (hdI B) 41 i = K 41 i ∧ (nI i ≠ hdI B → chM K (laI A) n (hdI B) 40 i = K 40 i) ∧ (nI i = hdI B → chM K (laI A) n (hdI B) 40 i = nI n) := by
    intro i hi
    have hin : i ≠ n := fun c => nB (c ▸ hi)
    have i5 := hb i (List.mem_append_right _ hi)
    have b41 : chB (chA K (laI A) n (hdI B)) (laI A) n 41 i = K 41 i ∧ chB (chA K (laI A) n (hdI B)) (laI A) n 40 i = K 40 i := by
      have a40 : chA K (laI A) n (hdI B) 40 i = K 40 i := by unfold chA; rw [up2_ne (by omega), up2_ne (by omega)]
      have a41 : chA K (laI A) n (hdI B) 41 i = K 41 i := by unfold chA; rw [up2_ne (by omega), up2_ne (by omega)]
      unfold chB
      rcases List.eq_nil_or_concat A with rfl | ⟨A1, x, rfl⟩
      · rw [if_pos (show laI [] = (-1 : Int32) from rfl), up2_ne (by omega), up2_ne (by omega)]; exact ⟨a41, a40⟩
      · rw [List.concat_eq_append] at a40 a41 hb hAB ⊢
        have hx : x ∈ A1 ++ [x] := List.mem_append_right _ List.mem_cons_self
        have x5 := hb x (List.mem_append_left _ hx)
        have : i ≠ x := fun c => hAB x hx i hi c.symm
        rw [laI_app] at a40 a41 ⊢
        rw [if_neg (nI_m1 (by omega)), nI_clamp (by omega), up2_ne (by omega), up2_ne (by omega)]; exact ⟨a41, a40⟩
    cases B with
    | nil => cases hi
    | cons y ys =>
      have y5 := hb y (List.mem_append_right _ List.mem_cons_self)
      unfold chM chC
      rw [show hdI (y :: ys) = nI y from rfl] at b41 ⊢
      rw [if_neg (nI_m1 (by omega)), nI_clamp (by omega)]
      refine ⟨by rw [up2_ne (by omega)]; exact b41.1, fun c => ?_, fun c => ?_⟩
      · have : i ≠ y := fun e => c (by rw [e])
        rw [up2_ne (by omega)]; exact b41.2
      · rw [nI_inj i5 y5 c, up2_at]
  have wn : chM K (laI A) n (hdI B) 40 n = laI A ∧ chM K (laI A) n (hdI B) 41 n = hdI B := by
    have b0 : chB (chA K (laI A) n (hdI B)) (laI A) n 40 n = laI A ∧ chB (chA K (laI A) n (hdI B)) (laI A) n 41 n = hdI B := by
      have a40 : chA K (laI A) n (hdI B) 40 n = laI A := by unfold chA; rw [up2_ne (by omega), up2_at]
      have a41 : chA K (laI A) n (hdI B) 41 n = hdI B := by unfold chA; rw [up2_at]
      unfold chB
      rcases List.eq_nil_or_concat A with rfl | ⟨A1, x, rfl⟩
      · rw [if_pos (show laI [] = (-1 : Int32) from rfl), up2_ne (by omega), up2_ne (by omega)]; exact ⟨a40, a41⟩
      · rw [List.concat_eq_append] at a40 a41 hb nA ⊢
        have hx : x ∈ A1 ++ [x] := List.mem_append_right _ List.mem_cons_self
        have x5 := hb x (List.mem_append_left _ hx)
        have : n ≠ x := fun c => nA (c ▸ hx)
        rw [laI_app] at a40 a41 ⊢
        rw [if_neg (nI_m1 (by omega)), nI_clamp (by omega), up2_ne (by omega), up2_ne (by omega)]; exact ⟨a40, a41⟩
    unfold chM chC
    cases B with
    | nil => rw [if_pos (show hdI [] = (-1 : Int32) from rfl), up2_ne (by omega), up2_ne (by omega)]; exact b0
    | cons y ys =>
      have y5 := hb y (List.mem_append_right _ List.mem_cons_self)
      have : n ≠ y := fun c => nB (c ▸ List.mem_cons_self)
      rw [show hdI (y :: ys) = nI y from rfl] at b0 ⊢
      rw [if_neg (nI_m1 (by omega)), nI_clamp (by omega), up2_ne (by omega), up2_ne (by omega)]; exact b0
  refine ⟨?_, ?_, Sg_app.mpr ⟨?_, ?_⟩⟩
  · -- first
    have e1 : chM K (laI A) n (hdI B) 43 0 = chB (chA K (laI A) n (hdI B)) (laI A) n 43 0 := by
      unfold chM chC
      split
      · rw [up2_ne (by omega)]
      · rw [up2_ne (by omega)]
    rw [e1]; unfold chB
    cases A with
    | nil => rw [if_pos (show laI [] = (-1 : Int32) from rfl), up2_at]; rfl
    | cons a A1 =>
      have : ¬ laI (a :: A1) = -1 := by
        rcases List.eq_nil_or_concat (a :: A1) with c | ⟨A2, x, c⟩
        · cases c
        · rw [c, List.concat_eq_append, laI_app]
          have hx : x ∈ a :: A1 := by rw [c, List.concat_eq_append]; exact List.mem_append_right _ List.mem_cons_self
          exact nI_m1 (by have := hb x (List.mem_append_left _ hx); omega)
      rw [if_neg this, up2_ne (by omega)]
      unfold chA; rw [up2_ne (by omega), up2_ne (by omega), h1]; rfl
  · -- last
    unfold chM chC
    cases B with
    | nil => rw [if_pos (show hdI [] = (-1 : Int32) from rfl), up2_at, laI_app]
    | cons y ys =>
      have y5 := hb y (List.mem_append_right _ List.mem_cons_self)
      rw [show hdI (y :: ys) = nI y from rfl, if_neg (nI_m1 (by omega)), nI_clamp (by omega), up2_ne (by omega)]
      have e1 : chB (chA K (laI A) n (nI y)) (laI A) n 43 1 = K 43 1 := by
        unfold chB chA
        split
        · rw [up2_ne (by omega), up2_ne (by omega), up2_ne (by omega)]
        · rw [up2_ne (by omega), up2_ne (by omega), up2_ne (by omega)]
      rw [e1, h2, ← laE_laI, ← laE_laI]
      have : ∀ (p q : Int32) (l1 l2 : List Nat), laE p (l1 ++ y :: l2) = laE q (y :: l2) := by
        intro p q l1
        induction l1 generalizing p with
        | nil => intro l2; rfl
        | cons c l1 ih => intro l2; exact ih _ l2
      rw [this (-1) (-1) A ys, show A ++ n :: y :: ys = (A ++ [n]) ++ y :: ys by simp, this (-1) (-1) (A ++ [n]) ys]
  · rcases List.eq_nil_or_concat A with rfl | ⟨A1, x, rfl⟩
    · trivial
    · rw [List.concat_eq_append] at s1 wA hb hd ⊢
      have hx : x ∈ A1 ++ [x] := List.mem_append_right _ List.mem_cons_self
      have hA1 : ∀ i ∈ A1, nI i ≠ laI (A1 ++ [x]) := fun i hi c => by
        rw [laI_app] at c
        have := nI_inj (hb i (List.mem_append_left _ (List.mem_append_left _ hi))) (hb x (List.mem_append_left _ hx)) c
        exact (List.nodup_append.mp (List.nodup_append.mp hd).1).2.2 i hi x List.mem_cons_self this
      exact Sg_last s1 (fun i hi => ⟨(wA i (List.mem_append_left _ hi)).1, (wA i (List.mem_append_left _ hi)).2.1 (hA1 i hi)⟩) (wA x hx).1 ((wA x hx).2.2 laI_app.symm)
  · rw [laE_laI]
    refine ⟨wn.1, wn.2.trans hdE_hdI.symm, ?_⟩
    cases B with
    | nil => trivial
    | cons y ys =>
      obtain ⟨a, b, c⟩ := s2
      have hB1 : ∀ i ∈ ys, nI i ≠ hdI (y :: ys) := fun i hi c => by
        have := nI_inj (hb i (List.mem_append_right _ (List.mem_cons_of_mem _ hi))) (hb y (List.mem_append_right _ List.mem_cons_self)) c
        exact (List.nodup_cons.mp (List.nodup_append.mp hd).2.1).1 (this ▸ hi)
      have hy := wB y List.mem_cons_self
      exact ⟨hy.2.2 rfl, hy.1.trans b, Sg_congr (fun i hi => ⟨(wB i (List.mem_cons_of_mem _ hi)).2.1 (hB1 i hi), (wB i (List.mem_cons_of_mem _ hi)).1⟩) c⟩
/-! what turning reads and writes -/
def tRow (r i : Nat) : Prop := r = 5 ∨ r = 6 ∨ r = 7 ∨ r = 8 ∨ (r = 0 ∧ i = 9)
def eqT (A B : MT) : Prop := ∀ r i, tRow r i → A r i = B r i
section EQT
variable {A B : MT}
theorem eqT.up (h : eqT A B) {a k : Nat} {v : Int32} : eqT (up2 A a k v) (up2 B a k v) := fun r i q => by
  unfold up2; split
  · rfl
  · exact h r i q
theorem eqT.hang (h : eqT A B) {u w : Int32} {n : Nat} : eqT (hangM A u w n) (hangM B u w n) := by
  unfold hangM
  rw [h 5 _ (Or.inl rfl)]
  split
  · exact h.up.up
  · split
    · exact h.up.up
    · exact h.up.up
theorem eqT.riseS (h : eqT A B) {a b n p : Nat} (hb : b = 5 ∨ b = 6) : eqT (riseS A a b n p) (riseS B a b n p) := by
  unfold _root_.Jvm.Pilot.CIntervalTreeLaw_law_r9763_99fb55.riseS
  rw [h b n (by rcases hb with rfl | rfl <;> simp [tRow]), h 7 p (by simp [tRow])]
  refine eqT.up (eqT.hang (eqT.up ?_))
  split
  · exact h.up
  · exact h.up.up
theorem eqT.rise (h : eqT A B) {n p : Nat} : eqT (riseM A n p) (riseM B n p) := by
  unfold riseM
  rw [h 5 p (Or.inl rfl)]
  split
  · exact h.riseS (Or.inr rfl)
  · exact h.riseS (Or.inl rfl)
theorem eqT.blk (h : eqT A B) : eqT (blk A) (blk B) := by
  unfold _root_.Jvm.Pilot.CIntervalTreeLaw_law_r9763_99fb55.blk
  rw [h 0 9 (by simp [tRow])]; exact h.up
theorem eqT.turn (h : eqT A B) {n p g : Nat} : eqT (turnM A n p g) (turnM B n p g) := by
  unfold turnM
  rw [h 5 p (Or.inl rfl), h 5 g (Or.inl rfl)]
  split
  · exact eqT.rise h.up.up
  · exact eqT.rise (h.rise.up.up)
theorem eqT.mend : ∀ {f : Nat} {A B : MT} {n : Nat}, eqT A B → eqT (mendM f A n) (mendM f B n) := by
  intro f
  induction f with
  | zero => intro A B n h; exact h.blk
  | succ f ih =>
    intro A B n h
    have hu : ∀ p g, uncM A p g = uncM B p g := fun p g => by unfold uncM; rw [h 5 g (Or.inl rfl), h 6 g (by simp [tRow])]
    unfold mendM
    rw [h 7 n (by simp [tRow]), h 8 _ (by simp [tRow]), h 7 _ (by simp [tRow]), hu, h 8 _ (by simp [tRow])]
    split
    · exact h.blk
    · split
      · exact h.blk
      · split
        · exact h.turn.blk
        · exact ih h.up.up.up
end EQT
