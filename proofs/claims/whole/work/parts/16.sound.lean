/-! ===== soundness: all instructions ===== -/
def retI (r : Option FieldType) (i : Ins) : Bool := if i.1 = 41 then decide (r = some .int) else if i.1 = 42 then decide (r = some .boolean) else if i.1 = 43 then (match r with | some t => isRT t | none => false) else if i.1 = 44 then r.isNone else true
def retK (r : Option FieldType) (k : List (Nat × List (Nat × Ins))) : Bool := k.all fun c => c.2.all fun q => retI r q.2
def jokB (j : Nat) : Bool := retK (mrow j).2.2.2.1 (kof j) && (decide (mown j < 9) || (kof j).isEmpty) && (!(decide (mown j < 8)) || (((mrow j).2.2.2.2).isNone && (!(decide ((mrow j).1.name = "<init>")) || ((mrow j).2.2.2.1).isNone)))
set_option maxRecDepth 100000 in
theorem jok_all : ((List.range 274).all jokB) = true := by decide +kernel
set_option maxRecDepth 100000 in
theorem jok_law : retK ret k_La_law = true := by decide +kernel
theorem retK_at {r : Option FieldType} {k : List (Nat × List (Nat × Ins))} (h : retK r k = true) (pc : Nat) : lkc k pc = bad ∨ retI r (lkc k pc) = true := by
  rcases lkc_mem (k := k) (pc := pc) with h1 | ⟨c, h1, h2⟩
  · exact Or.inl h1
  · unfold retK at h
    have a := List.all_eq_true.mp h c h1
    have b := List.all_eq_true.mp a _ h2
    exact Or.inr b
theorem jok {j : Nat} (hj : j < 274) : retK (mrow j).2.2.2.1 (kof j) = true ∧ (mown j < 9 ∨ kof j = []) ∧ (mown j < 8 → (mrow j).2.2.2.2 = none ∧ ((mrow j).1.name = "<init>" → (mrow j).2.2.2.1 = none)) := by
  have h := List.all_eq_true.mp jok_all j (List.mem_range.mpr hj)
  unfold jokB at h
  simp only [Bool.and_eq_true, Bool.or_eq_true, decide_eq_true_eq, Bool.not_eq_true', decide_eq_false_iff_not, List.isEmpty_iff, Option.isNone_iff_eq_none] at h
  obtain ⟨⟨h1, h2⟩, h3⟩ := h
  refine ⟨h1, h2, fun q => ?_⟩
  rcases h3 with h3 | ⟨h3, h4⟩
  · exact absurd q h3
  · refine ⟨h3, fun z => ?_⟩
    rcases h4 with h4 | h4
    · exact absurd z h4
    · exact h4
theorem ktab_len : ktab.length = 274 := by decide +kernel
/-- every instruction of ours is the machine's -/
def valid (j : Nat) : Prop := (j < 274 ∧ mown j < 9) ∨ j = 300
theorem cod_ok (j pc : Nat) : cod j pc = bad ∨ (valid j ∧ okI (mown j) (mnL j) (mby j) (zrj j) (iij j) pc (cod j pc) = true ∧ retI (mrt j) (cod j pc) = true) := by
  unfold cod
  by_cases h3 : j = 300
  · subst h3
    have hk : kof 300 = k_La_law := rfl
    rw [hk]
    rcases okK_at ck_law pc with h | h
    · exact Or.inl h
    · rcases retK_at jok_law pc with h2 | h2
      · exact Or.inl h2
      · exact Or.inr ⟨Or.inr rfl, h, h2⟩
  · by_cases hj : j < 274
    · have hb : Nat.beq j 300 = false := nbeq_ne h3
      have e1 : mby j = (mrow j).2.1 := by unfold mby; rw [hb]; rfl
      have e2 : zrj j = isB (mrow j).2.2.2.1 := by unfold zrj; rw [hb]; rfl
      have e3 : mrt j = (mrow j).2.2.2.1 := by unfold mrt; rw [hb]; rfl
      have hr : okR (krow j) := KRs_ok _ (by rw [KRs_rows]; exact List.mem_map.mpr ⟨j, List.mem_range.mpr hj, rfl⟩)
      obtain ⟨g1, g2, -⟩ := jok hj
      rcases g2 with g2 | g2
      · rcases okK_at (k := kof j) (o := mown j) (nL := mnL j) (cc := (mrow j).2.1) (zr := isB (mrow j).2.2.2.1) (ii := mIi.getD j false) hr pc with h | h
        · exact Or.inl h
        · rcases retK_at g1 pc with h2 | h2
          · exact Or.inl h2
          · refine Or.inr ⟨Or.inl ⟨hj, g2⟩, ?_, by rw [e3]; exact h2⟩
            rw [e1, e2]; exact h
      · left; rw [g2]; rfl
    · left
      have : kof j = [] := by
        unfold kof
        rw [nbeq_ne h3]
        show ktab.getD j [] = []
        rw [List.getD_eq_getElem?_getD, List.getElem?_eq_none (by rw [ktab_len]; omega)]; rfl
      rw [this]; rfl
theorem valid.own {j : Nat} (h : valid j) : mown j < 9 := by
  rcases h with h | rfl
  · exact h.2
  · decide
theorem valid.tab {j : Nat} (h : valid j) : hokA (mown j) (mhh j) (hof j) = true := by
  rcases h with h | rfl
  · exact (mok h.1 h.2).2.2.2.2.2.2.2
  · rfl
theorem valid.rng {j : Nat} (h : valid j) : j < 274 ∨ j = 300 := h.imp (·.1) id
theorem w_kl {o k : Nat} {v : Int} (ho : o < 9) (h : (o, k, v) ∈ klX) : Cond.constant (cname o) k (Int32.ofInt v) ∈ TW := by
  obtain ⟨w, hw, hx⟩ := mem_ex eqKl (List.mem_map_of_mem (f := fun (q : Nat × Nat × Int) => (cn2 q.1, q.2.1, Int32.ofInt q.2.2)) h)
  unfold exKl at hx
  split at hx
  · have hx := Option.some.inj hx
    simp only [Prod.mk.injEq] at hx
    obtain ⟨b1, b2, b3⟩ := hx
    rw [cn2_own ho] at b1
    subst b1; subst b2; subst b3
    exact TW_of hw rfl
  · cases hx
theorem w_fl {j k a b : Nat} (ho : mown j < 9) (ha : a < 8) (h : (mown j, k, a, b) ∈ flX) : flk j k a b ∈ TW := by
  obtain ⟨w, hw, hx⟩ := mem_ex eqFl (List.mem_map_of_mem (f := fun (q : Nat × Nat × Nat × Nat) => (cn2 q.1, q.2.1, (fN q.2.2.1 q.2.2.2).1, (fN q.2.2.1 q.2.2.2).2.1, (fN q.2.2.1 q.2.2.2).2.2)) h)
  have e1 : fN a b = ((TT a b).1, (TT a b).2.1, (TT a b).2.2.1) := if_pos ha
  simp only [e1, cn2_own ho] at hx
  unfold exFl at hx
  split at hx
  · have hx := Option.some.inj hx
    simp only [Prod.mk.injEq] at hx
    obtain ⟨b1, b2, b3, b4, b5⟩ := hx
    unfold flk
    rw [← b1, ← b2, ← b3, ← b4, ← b5]
    exact TW_of hw rfl
  · cases hx
theorem w_cl {o k c : Nat} (ho : o < 9) (hc : c < 9) (h : (o, k, c) ∈ clX) : Cond.classLink (cname o) k (cname c) ∈ TW := by
  obtain ⟨w, hw, hx⟩ := mem_ex eqCl (List.mem_map_of_mem (f := fun (q : Nat × Nat × Nat) => (cn2 q.1, q.2.1, cn2 q.2.2)) h)
  unfold exCl at hx
  split at hx
  · have hx := Option.some.inj hx
    simp only [Prod.mk.injEq] at hx
    obtain ⟨b1, b2, b3⟩ := hx
    rw [cn2_own ho] at b1
    rw [cn2_own hc] at b3
    subst b1; subst b2; subst b3
    exact TW_of hw rfl
  · cases hx
theorem w_ins {c n : Nat} (hc : c < 9) (h : (c, n) ∈ insX) : Cond.instantiable (cname c) n ∈ TW := by
  obtain ⟨w, hw, hx⟩ := mem_ex eqIns (List.mem_map_of_mem (f := fun (q : Nat × Nat) => (cn2 q.1, q.2)) h)
  unfold exIns at hx
  split at hx
  · have hx := Option.some.inj hx
    simp only [Prod.mk.injEq] at hx
    obtain ⟨b1, b2⟩ := hx
    rw [cn2_own hc] at b1
    subst b1; subst b2
    exact TW_of hw rfl
  · cases hx
theorem ini8 : ((List.range 9).all fun c => decide (c ∈ iniX)) = true := by decide +kernel
theorem w_ini8 {c : Nat} (hc : c < 9) : Cond.initialized (cname c) ∈ TW := by
  have := w_ini (of_decide_eq_true (List.all_eq_true.mp ini8 c (List.mem_range.mpr hc)))
  rwa [cn2_own hc] at this
theorem w_arr {t : ArrayType} {k : Nat} (h : atk k = some t) : Cond.arrayClass (newarray.typeOf t) ∈ TW := by
  have h1 : Cond.arrayClass .int ∈ tables_1 := by decide +kernel
  have h2 : Cond.arrayClass .boolean ∈ tables_1 := by decide +kernel
  have h3 : Cond.arrayClass .long ∈ tables_1 := by decide +kernel
  unfold atk at h
  split at h
  · cases h; exact TW_of h1 rfl
  · cases h; exact TW_of h2 rfl
  · cases h; exact TW_of h3 rfl
  · cases h
theorem obj_cw : cw jObj = .code Lib.objectInit ⟨#[0xb1]⟩ 1 none := rfl
theorem obj_my : my jObj = Lib.objectInit := rfl
theorem obj_in : jObj ∈ inX := by decide +kernel
theorem max_cw : cw jMax = .code Lib.Math.max.name Lib.Math.max.code 2 (some .int) := by decide +kernel
theorem max_my : my jMax = Lib.Math.max.name := by decide +kernel
theorem min_cw : cw jMin = .code Lib.Math.min.name Lib.Math.min.code 2 (some .int) := by decide +kernel
theorem min_my : my jMin = Lib.Math.min.name := by decide +kernel
theorem mm_st : jMax ∈ stX ∧ jMin ∈ stX := by decide +kernel
theorem math_ini : Cond.initialized "java/lang/Math" ∈ TW := by
  have : cN2.idxOf "java/lang/Math" ∈ iniX := by decide +kernel
  have h := w_ini this
  have e : cn2 (cN2.idxOf "java/lang/Math") = "java/lang/Math" := by decide +kernel
  rwa [e] at h
