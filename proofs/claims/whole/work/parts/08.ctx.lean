/-! ===== what holds within a method's run; the claim of soundness ===== -/
def mby (j : Nat) : ByteArray := cond (Nat.beq j 300) code (mrow j).2.1
def mrt (j : Nat) : Option FieldType := cond (Nat.beq j 300) ret (mrow j).2.2.2.1
def mhh (j : Nat) : List (Nat × Nat × Nat × Nat) := ((mrow j).2.2.2.2).getD []
def zrj (j : Nat) : Bool := cond (Nat.beq j 300) true (isB (mrow j).2.2.2.1)
def iij (j : Nat) : Bool := mIi.getD j false
def lvl (ls : List (Option AV)) : List (Nat × Value) := (List.range ls.length).filterMap fun k => match ls[k]? with
  | some (some v) => some (k, toV v)
  | _ => none
def lsOK (lsA : Array Slot) (nL : Nat) (ls : List (Option AV)) : Prop := ls.length = nL ∧ lv_has lsA nL (lvl ls) ∧ ∀ v, some v ∈ ls → (toV v).category = 1
theorem lvl_mem {ls : List (Option AV)} {k : Nat} {v : AV} (h : ls[k]? = some (some v)) : (k, toV v) ∈ lvl ls := by
  refine List.mem_filterMap.mpr ⟨k, List.mem_range.mpr ?_, by rw [h]⟩
  exact (List.getElem?_eq_some_iff.mp h).1
theorem lvl_of {ls : List (Option AV)} {q : Nat × Value} (h : q ∈ lvl ls) : ∃ v, ls[q.1]? = some (some v) ∧ q.2 = toV v := by
  obtain ⟨k, -, h2⟩ := List.mem_filterMap.mp h
  split at h2
  · rename_i v hv
    cases h2
    exact ⟨v, hv, rfl⟩
  · cases h2
theorem lsOK.at {lsA : Array Slot} {nL : Nat} {ls : List (Option AV)} (h : lsOK lsA nL ls) {k : Nat} {v : AV} (hk : ls[k]? = some (some v)) : lsA[k]? = some (.val (toV v)) := h.2.1.2.2 _ (lvl_mem hk)
theorem getL_spec {ls : List (Option AV)} {k : Nat} {f : AV → Prop} (h : getL ls k f) : ∃ v, ls[k]? = some (some v) ∧ f v := by
  induction ls generalizing k with
  | nil => exact h.elim
  | cons x r ih =>
    cases k with
    | zero => cases x with
      | none => exact h.elim
      | some v => exact ⟨v, rfl, h⟩
    | succ k => exact ih (k := k) h
theorem lsOK.set {lsA lsA' : Array Slot} {nL : Nat} {ls : List (Option AV)} (h : lsOK lsA nL ls) {i : Nat} {x : AV} (hi : i < nL) (hc : (toV x).category = 1) (h' : lv_has lsA' nL ((i, toV x) :: (lvl ls).filter (fun q => !(q.1 == i) && !(q.1 + 1 == i && q.2.category == 2)))) : lsOK lsA' nL (ls.set i (some x)) := by
  obtain ⟨h1, h2, h3⟩ := h
  refine ⟨by rw [List.length_set]; exact h1, ⟨h'.1, h'.2.1, fun q hq => ?_⟩, fun v hv => ?_⟩
  · obtain ⟨v, hv, e⟩ := lvl_of hq
    rw [List.getElem?_set] at hv
    by_cases hqi : i = q.1
    · rw [if_pos hqi] at hv
      by_cases hlt : i < ls.length
      · rw [if_pos (by omega)] at hv
        have hv := Option.some.inj (Option.some.inj hv)
        have := h'.2.2 _ (List.mem_cons_self (a := (i, toV x)))
        rw [e, ← hqi, ← hv]
        exact this
      · rw [if_neg (by omega)] at hv; cases hv
    · rw [if_neg hqi] at hv
      refine h'.2.2 q (List.mem_cons_of_mem _ (List.mem_filter.mpr ⟨?_, ?_⟩))
      · have := lvl_mem hv
        rw [← e] at this
        exact this
      · have hc2 : q.2.category = 1 := by rw [e]; exact h3 v (List.mem_of_getElem? hv)
        have h5 : (q.1 == i) = false := by simp; omega
        rw [h5, hc2]; simp
  · rcases List.mem_or_eq_of_mem_set hv with h4 | h4
    · exact h3 v h4
    · cases h4; exact hc
/-- the machine and the method where a run of j stands -/
def Cx (G : GT) (lim : Nat × Nat) (d j : Nat) (p : Program) (s : State) (m : MethodId) (args : Array Value) (meth : Method) (c : Code) (Rm : Room) (h0 : AHp) : Prop :=
  p.tables.exec = Jvm.exec ∧ c.code = mby j ∧ c.maxLocals = mnL j ∧ meth.sig.returnType = mrt j ∧ meth.locks = false ∧ s.vm.findClass (cname (mown j)) = some m.cls ∧ (∀ w ∈ TW, w.before args s = true) ∧ Fs G s ∧
  c.exceptionTable.toList = tableOf (mhh j) ∧ (iij j = true → meth.name = "<init>") ∧ Rep G lim s.heap h0 ∧ Rm.cells + hsz h0 = lim.1 ∧ Rm.slots + hsu h0 = lim.2 ∧ d + 8 ≤ Rm.frames ∧ 40 * d + 200 ≤ Rm.locals
def QR (G : GT) (lim : Nat × Nat) (j : Nat) (R : RT) : Array Value → State → Outcome → State → Prop := fun _ _ o t => ∃ v h', o = .returned (v.map toV) ∧ R v h' ∧ Rep G lim t.heap h' ∧ (mrt j = none → v = none)
def XR (G : GT) (lim : Nat × Nat) (X : XT) : String → State → State → Prop := fun E _ t => ∃ n h', 1 ≤ n ∧ n < 5 ∧ E = exN n ∧ X n h' ∧ Rep G lim t.heap h'
def fre (G : GT) : Addr → Prop := fun a => G.1 ≤ a
def Snd (G : GT) (lim : Nat × Nat) (l : Launch) : ZT := fun d j pc ls st h R X =>
  ∀ (p : Program) (e : Env) (s : State) (m : MethodId) (args : Array Value) (below : List Frame) (meth : Method) (c : Code) (Rm : Room) (h0 : AHp), Cx G lim d j p s m args meth c Rm h0 →
  ∀ (H : Heap) (locs : List Loc) (cells slots : Nat) (lsA : Array Slot), Rep G lim H h → (∀ z ∈ locs, G.1 ≤ z.base) → cells + hsz h0 = hsz h → slots + hsu h0 = hsu h → lsOK lsA (mnL j) ls →
  W p l e Rm s m args below meth c H locs cells slots (vx_MQ below (QR G lim j R) (XR G lim X) args s Rm.cells Rm.slots (fre G)) (F0 m pc lsA (st.map toV))
theorem lkl_mem {l : List (Nat × Ins)} {pc : Nat} : lkl l pc = bad ∨ (pc, lkl l pc) ∈ l := by
  induction l with
  | nil => exact Or.inl rfl
  | cons q r ih =>
    show cond (Nat.beq q.1 pc) q.2 (lkl r pc) = bad ∨ (pc, cond (Nat.beq q.1 pc) q.2 (lkl r pc)) ∈ q :: r
    cases hb : Nat.beq q.1 pc with
    | true =>
      have e : q.1 = pc := Nat.eq_of_beq_eq_true hb
      refine Or.inr ?_
      show (pc, q.2) ∈ q :: r
      rw [← e]; exact List.mem_cons_self
    | false =>
      rcases ih with h | h
      · exact Or.inl h
      · exact Or.inr (List.mem_cons_of_mem _ h)
theorem lkc_mem {k : List (Nat × List (Nat × Ins))} {pc : Nat} : lkc k pc = bad ∨ ∃ c ∈ k, (pc, lkc k pc) ∈ c.2 := by
  induction k with
  | nil => exact Or.inl rfl
  | cons q r ih =>
    show cond (Nat.blt pc q.1) (lkl q.2 pc) (lkc r pc) = bad ∨ ∃ c ∈ q :: r, (pc, cond (Nat.blt pc q.1) (lkl q.2 pc) (lkc r pc)) ∈ c.2
    cases hb : Nat.blt pc q.1 with
    | true =>
      rcases lkl_mem (l := q.2) (pc := pc) with h | h
      · exact Or.inl h
      · exact Or.inr ⟨q, List.mem_cons_self, h⟩
    | false =>
      rcases ih with h | ⟨c, h, h2⟩
      · exact Or.inl h
      · exact Or.inr ⟨c, List.mem_cons_of_mem _ h, h2⟩
theorem okK_at {o nL : Nat} {cc : ByteArray} {zr ii : Bool} {k : List (Nat × List (Nat × Ins))} (h : okK o nL cc zr ii k = true) (pc : Nat) : lkc k pc = bad ∨ okI o nL cc zr ii pc (lkc k pc) = true := by
  rcases lkc_mem (k := k) (pc := pc) with h1 | ⟨c, h1, h2⟩
  · exact Or.inl h1
  · unfold okK at h
    have a := List.all_eq_true.mp h c h1
    have b := List.all_eq_true.mp a _ h2
    exact Or.inr b
