theorem in_st_all : (inX.all fun j => decide (j ∉ stX)) = true := by decide +kernel
theorem in_not_st {j : Nat} (h : j ∈ inX) : ¬ j ∈ stX := of_decide_eq_true (List.all_eq_true.mp in_st_all j h)
section SN
variable {G : GT} {lim : Nat × Nat} {l : Launch} {d j : Nat} {p : Program} {e : Env} {s : State} {m : MethodId} {args : Array Value} {below : List Frame} {meth : Method} {c : Code} {Rm : Room} {h0 : AHp}
variable {H : Heap} {locs : List Loc} {cells slots : Nat} {lsA : Array Slot} {ls : List (Option AV)} {st r : List AV} {h : AHp} {R : RT} {X : XT} {pc : Nat}
/-- the counts, as the heap has them -/
theorem stand_exact {T : State} {L : List Loc} {k n : Nat} {h' : AHp} (C : Cx G lim d j p s m args meth c Rm h0) (Y : Stand p l e Rm s m args below meth c T L k n) (hR : Rep G lim T.heap h') :
    ∃ k' n', Stand p l e Rm s m args below meth c T L k' n' ∧ k' + hsz h0 = hsz h' ∧ n' + hsu h0 = hsu h' := by
  have hR0 : Rep G lim s.heap h0 := C.2.2.2.2.2.2.2.2.2.2.1
  obtain ⟨m1, m2, m3, m4, m5, m6⟩ := Y.same
  have m2 : s.heap.size ≤ T.heap.size := m2
  have z0 : s.heap.size = hsz h0 := hR0.1
  have z1 : T.heap.size = hsz h' := hR.1
  have b0 : G.1 ≤ hsz h0 := hR0.2.1
  have s1 : ssum G.1 T.heap = ssum G.1 s.heap + ssum s.heap.size T.heap := by
    refine ssum_split (by omega) m2 fun q hq => ?_
    obtain ⟨c', f1, -, f3, -⟩ := m6 q _ (Array.getElem?_eq_getElem hq)
    have f1 : T.heap[q]? = some c' := f1
    rw [f1, Array.getElem?_eq_getElem hq]; simp [f3]
  have s3 : ssum G.1 s.heap = hsu h0 := hR0.2.2.2.1
  have s4 : ssum G.1 T.heap = hsu h' := hR.2.2.2.1
  refine ⟨T.heap.size - s.heap.size, ssum s.heap.size T.heap, { Y with same := ⟨m1, m2, ?_, m4, Nat.le_refl _, m6⟩ }, by omega, by omega⟩
  show T.heap.size ≤ s.heap.size + (T.heap.size - s.heap.size)
  omega
theorem after_run {mc ms jj : Nat} {R' : RT} {X' : XT} {av : Array Value} {st0 rest : List Value} (C : Cx G lim d j p s m args meth c Rm h0) (A : At0 G lim j h0 h H locs cells slots lsA ls)
    (hr : vx_Run p l e Rm s m args below meth c H locs cells slots mc ms (F0 m pc lsA st0) rest (QR G lim jj R' av) (XR G lim X') (fre G))
    (kr : ∀ v h', R' v h' → (mrt jj = none → v = none) → ∀ H' locs' cells' slots', At0 G lim j h0 h' H' locs' cells' slots' lsA ls → TG G lim l j p e s m args below meth c Rm H' locs' cells' slots' R X (pc + 3) lsA ((v.map toV).toList ++ rest))
    (kx : ∀ n h', 1 ≤ n → n < 5 → X' n h' → ∀ H' locs' cells' slots' q ce, At0 G lim j h0 h' H' locs' cells' slots' lsA ls → H'[q]? = some ce → ce.vm = .none → s.vm.findClass (exN n) = some ce.cls →
      vx_W p l e Rm s m args below meth c H' locs' cells' slots' (vx_MQ below (QR G lim j R) (XR G lim X) args s Rm.cells Rm.slots (fre G)) (F0 m pc lsA rest) q) :
    TG G lim l j p e s m args below meth c Rm H locs cells slots R X pc lsA st0 := by
  intro T hT Y
  rcases hr T hT Y with ⟨v, st₀, t, T', L, e0, Y', hL, e1, e2, ⟨v', h', hv, hR', hRep, hnone⟩, goes⟩ | ⟨q, st₀, t, T', L, E, ce, e0, Y', hL, e1, e2, ⟨n, h', n1, n2, hE, hX', hRep⟩, q1, q2, q3, goes⟩
  · rw [← e1] at hRep
    cases Outcome.returned.inj hv
    obtain ⟨k', n', Y'', a1, a2⟩ := stand_exact C Y' hRep
    have A' : At0 G lim j h0 h' T'.heap (locs ++ L) k' n' lsA ls := ⟨hRep, fun z hz => (List.mem_append.mp hz).elim (A.2.1 z) (hL z), a1, a2, A.2.2.2.2⟩
    obtain ⟨t2, b1, b2⟩ := kr v' h' hR' hnone _ _ _ _ A' T' rfl Y''
    exact ⟨t2, goes t2 b1, b2⟩
  · rw [← e1] at hRep q1
    subst hE
    obtain ⟨k', n', Y'', a1, a2⟩ := stand_exact C Y' hRep
    have A' : At0 G lim j h0 h' T'.heap (locs ++ L) k' n' lsA ls := ⟨hRep, fun z hz => (List.mem_append.mp hz).elim (A.2.1 z) (hL z), a1, a2, A.2.2.2.2⟩
    obtain ⟨t2, b1, b2⟩ := kx n h' n1 n2 hX' _ _ _ _ q ce A' q1 q2 q3 T' rfl Y''
    exact ⟨t2, goes.trans b1, b2⟩
theorem hok_spec {o pc n : Nat} : ∀ {rw_ cd : List (Nat × Nat × Nat × Nat)}, hokA o rw_ cd = true →
    (hfind cd pc n = none ∧ ∀ z ∈ tableOf rw_, covers z pc = false ∨ (z.catchType ≠ 0 ∧ ∃ n', (o, z.catchType, n') ∈ XLn ∧ n' ≠ n)) ∨
    (∃ pre x suf, tableOf rw_ = pre ++ x :: suf ∧ (∀ z ∈ pre, covers z pc = false ∨ (z.catchType ≠ 0 ∧ ∃ n', (o, z.catchType, n') ∈ XLn ∧ n' ≠ n)) ∧ covers x pc = true ∧ x.catchType ≠ 0 ∧ (o, x.catchType, n) ∈ XLn ∧ hfind cd pc n = some x.handlerPc) := by
  intro rw_
  induction rw_ with
  | nil =>
    intro cd h
    cases cd with
    | nil => exact Or.inl ⟨rfl, fun z hz => by simp [tableOf] at hz⟩
    | cons b r => cases h
  | cons a r ih =>
    intro cd h
    cases cd with
    | nil => cases h
    | cons b r' =>
      have h : (decide (a.1 = b.1) && decide (a.2.1 = b.2.1) && decide (a.2.2.1 = b.2.2.1) && decide ((o, a.2.2.2, b.2.2.2) ∈ XLn) && decide (a.2.2.2 ≠ 0) && hokA o r r') = true := h
      simp only [Bool.and_eq_true, decide_eq_true_eq] at h
      obtain ⟨⟨⟨⟨⟨h1, h2⟩, h3⟩, h4⟩, h5⟩, h6⟩ := h
      have hf : hfind (b :: r') pc n = cond (Nat.ble b.1 pc && Nat.blt pc b.2.1 && Nat.beq b.2.2.2 n) (some b.2.2.1) (hfind r' pc n) := rfl
      have hcov : covers (⟨a.1, a.2.1, a.2.2.1, a.2.2.2⟩ : ExceptionTableEntry) pc = (Nat.ble b.1 pc && Nat.blt pc b.2.1) := by
        show (decide (a.1 ≤ pc) && decide (pc < a.2.1)) = _
        rw [h1, h2]
        congr 1
        · rw [Bool.eq_iff_iff, decide_eq_true_eq, Nat.ble_eq]
        · rw [Bool.eq_iff_iff, decide_eq_true_eq, Nat.blt_eq]
      have htab : tableOf (a :: r) = ⟨a.1, a.2.1, a.2.2.1, a.2.2.2⟩ :: tableOf r := rfl
      by_cases hm : (Nat.ble b.1 pc && Nat.blt pc b.2.1 && Nat.beq b.2.2.2 n) = true
      · rw [Bool.and_eq_true] at hm
        have hn : b.2.2.2 = n := Nat.eq_of_beq_eq_true hm.2
        refine Or.inr ⟨[], ⟨a.1, a.2.1, a.2.2.1, a.2.2.2⟩, tableOf r, htab, fun z hz => by simp at hz, by rw [hcov]; exact hm.1, h5, by rw [← hn]; exact h4, ?_⟩
        rw [hf, hm.1, hm.2]
        show some b.2.2.1 = some a.2.2.1
        rw [h3]
      · have hm : (Nat.ble b.1 pc && Nat.blt pc b.2.1 && Nat.beq b.2.2.2 n) = false := (Bool.not_eq_true _).mp hm
        have hpass : covers (⟨a.1, a.2.1, a.2.2.1, a.2.2.2⟩ : ExceptionTableEntry) pc = false ∨ (a.2.2.2 ≠ 0 ∧ ∃ n', (o, a.2.2.2, n') ∈ XLn ∧ n' ≠ n) := by
          by_cases hc : (Nat.ble b.1 pc && Nat.blt pc b.2.1) = true
          · rw [hc, Bool.true_and] at hm
            refine Or.inr ⟨h5, b.2.2.2, h4, fun q => ?_⟩
            rw [q, Nat.beq_refl] at hm; cases hm
          · left; rw [hcov]; exact (Bool.not_eq_true _).mp hc
        have hf2 : hfind (b :: r') pc n = hfind r' pc n := by rw [hf, hm]; rfl
        rcases ih h6 with ⟨g1, g2⟩ | ⟨pre, x, suf, g1, g2, g3, g4, g5, g6⟩
        · refine Or.inl ⟨by rw [hf2]; exact g1, fun z hz => ?_⟩
          rw [htab] at hz
          rcases List.mem_cons.mp hz with rfl | hz
          · exact hpass
          · exact g2 z hz
        · refine Or.inr ⟨⟨a.1, a.2.1, a.2.2.1, a.2.2.2⟩ :: pre, x, suf, by rw [htab, g1]; rfl, fun z hz => ?_, g3, g4, g5, by rw [hf2]; exact g6⟩
          rcases List.mem_cons.mp hz with rfl | hz
          · exact hpass
          · exact g2 z hz
theorem XL_link {o k n : Nat} (ho : o < 9) (h : (o, k, n) ∈ XLn) : Cond.classLink (cname o) k (exN n) ∈ TW ∧ 1 ≤ n ∧ n < 5 := by
  have hx := List.all_eq_true.mp XLn_ok _ h
  simp only [Bool.and_eq_true, decide_eq_true_eq] at hx
  obtain ⟨⟨hx1, hx2⟩, hx3⟩ := hx
  have hn := List.all_eq_true.mp exI_ok n (List.mem_range.mpr hx3)
  have hn0 : (n == 0) = false := by simp; omega
  rw [hn0, Bool.false_or, Bool.and_eq_true] at hn
  have hn1 : cn2 (exI n) = exN n := of_decide_eq_true hn.1
  obtain ⟨w, hw, hw2⟩ := mem_ex eqCl (List.mem_map_of_mem (f := fun (q : Nat × Nat × Nat) => (cn2 q.1, q.2.1, cn2 q.2.2)) hx1)
  unfold exCl at hw2
  split at hw2
  · have hw2 := Option.some.inj hw2
    simp only [Prod.mk.injEq] at hw2
    obtain ⟨b1, b2, b3⟩ := hw2
    rw [cn2_own ho] at b1
    rw [hn1] at b3
    subst b1; subst b2; subst b3
    exact ⟨TW_of hw rfl, hx2, hx3⟩
  · cases hw2
theorem cast_all : ((List.range 5).all fun n => (n == 0) || decide (Cond.castable (exN n) (exN n) ∈ tables_1)) = true := by decide +kernel
/-- a callee's exception: caught here, or handed on -/
theorem sn_hx (hj : j < 274 ∨ j = 300) (C : Cx G lim d j p s m args meth c Rm h0) (hmo : mown j < 9) (hho : hokA (mown j) (mhh j) (hof j) = true) {n : Nat} {h' : AHp} (n1 : 1 ≤ n) (n2 : n < 5) (hx : hx_to (fun pc ls st h => Snd G lim l d j pc ls st h R X) X (hndj j pc) ls n h')
    {q : Nat} {ce : Cell} {rest : List Value} (A : At0 G lim j h0 h' H locs cells slots lsA ls) (q1 : H[q]? = some ce) (q2 : ce.vm = .none) (q3 : s.vm.findClass (exN n) = some ce.cls) :
    vx_W p l e Rm s m args below meth c H locs cells slots (vx_MQ below (QR G lim j R) (XR G lim X) args s Rm.cells Rm.slots (fre G)) (F0 m pc lsA rest) q := by
  have htab : c.exceptionTable.toList = tableOf (mhh j) := C.2.2.2.2.2.2.2.2.1
  have hpass : ∀ z : ExceptionTableEntry, (covers z pc = false ∨ (z.catchType ≠ 0 ∧ ∃ n', (mown j, z.catchType, n') ∈ XLn ∧ n' ≠ n)) → covers z pc = false ∨ (z.catchType ≠ 0 ∧ ∃ nm : String, (Cond.classLink (cname (mown j)) z.catchType nm).before args s = true ∧ va_Nc (exN n) nm s) := by
    intro z hz
    rcases hz with hz | ⟨z1, n', z2, z3⟩
    · exact Or.inl hz
    · obtain ⟨l1, l2, l3⟩ := XL_link hmo z2
      exact Or.inr ⟨z1, exN n', C.ts _ l1, C.fs.2.2.2.1 n n' n1 n2 l2 l3 (fun q => z3 q.symm)⟩
  rcases hok_spec (pc := pc) (n := n) hho with ⟨g1, g2⟩ | ⟨pre, x, suf, g1, g2, g3, g4, g5, g6⟩
  · have hx : X n h' := by
      unfold hx_to hndj at hx
      rw [g1] at hx; exact hx
    exact vx_outP C.own C.2.2.2.2.1 (fun z hz => hpass z (g2 z (by rw [← htab]; exact hz))) q1 q2 q3 (fun t ht _ => ⟨n, h', n1, n2, rfl, hx, by rw [ht]; exact A.1⟩) A.2.1 (A.le C).1 (A.le C).2
  · have hx : ∀ q : Nat, Snd G lim l d j x.handlerPc ls [vr (some q)] h' R X := by
      unfold hx_to hndj at hx
      rw [g6] at hx; exact hx
    obtain ⟨l1, l2, l3⟩ := XL_link hmo g5
    have hcast : (Cond.castable (exN n) (exN n)).before args s = true := by
      have h1 := List.all_eq_true.mp cast_all n (List.mem_range.mpr n2)
      have hn0 : (n == 0) = false := by simp; omega
      rw [hn0, Bool.false_or] at h1
      exact va_Nw.use rfl (C.fs.2.2.1 _ (List.mem_filter.mpr ⟨of_decide_eq_true h1, rfl⟩))
    exact vx_catch C.own pre x suf (by rw [htab]; exact g1) (fun z hz => hpass z (g2 z hz)) g3 g4 (C.ts _ l1) hcast q1 q2 q3 (Snd.go (hx q) C A)
/-- what comes behind an answer -/
theorem sn_rt {i : Ins} {jj : Nat} {r : List AV} (C : Cx G lim d j p s m args meth c Rm h0) (hi : i.2.2.2.1 = pc + 3) (hrc : i.2.2.2.2.1 = ((mRc.getD jj 0 : Nat) : Int)) (hret : retOK (mRc.getD jj 0) (mrt jj) = true) {v : Option AV} {h' : AHp} (hv : rt_to (fun pc ls st h => Snd G lim l d j pc ls st h R X) i ls r v h') (hn : mrt jj = none → v = none)
    (A : At0 G lim j h0 h' H locs cells slots lsA ls) : TG G lim l j p e s m args below meth c Rm H locs cells slots R X (pc + 3) lsA ((v.map toV).toList ++ r.map toV) := by
  unfold rt_to at hv
  rw [hi] at hv
  by_cases c0 : i.2.2.2.2.1 = 0
  · rw [if_pos c0] at hv
    have hz : mRc.getD jj 0 = 0 := by rw [hrc] at c0; exact Int.ofNat.inj c0
    rw [hz] at hret
    have : mrt jj = none := by
      cases hm : mrt jj with
      | none => rfl
      | some t => rw [hm] at hret; cases hret
    rw [hn this]
    exact Snd.go hv C A
  · rw [if_neg c0] at hv
    by_cases c1 : i.2.2.2.2.1 = 1
    · rw [if_pos c1] at hv
      rcases v with _ | x | o | x
      · exact hv.elim
      · exact Snd.go hv C A
      · exact hv.elim
      · exact hv.elim
    · rw [if_neg c1] at hv
      rcases v with _ | x | o | x
      · exact hv.elim
      · exact hv.elim
      · exact Snd.go hv C A
      · exact hv.elim
theorem mrt_row {j : Nat} (hj : j < 274) : mrt j = (mrow j).2.2.2.1 := by
  unfold mrt
  rw [show Nat.beq j 300 = false from nbeq_ne (by omega)]; rfl
theorem call_room (C : Cx G lim d j p s m args meth c Rm h0) (A : At0 G lim j h0 h H locs cells slots lsA ls) (hd : 0 < d) {jj : Nat} (hj : jj < 274) (ho : mown jj < 9) : (rmO lim (d - 1) h).frames + 1 ≤ Rm.frames ∧ 8 + ((mrow jj).2.2.1 + 11) + (rmO lim (d - 1) h).locals ≤ Rm.locals ∧ cells + (lim.1 - hsz h) ≤ Rm.cells ∧ slots + (lim.2 - hsu h) ≤ Rm.slots := by
  obtain ⟨-, -, m3, m4, -⟩ := mok hj ho
  have hr := C.room
  have a1 := A.2.2.1
  have a2 := A.2.2.2.1
  have a3 := A.1.2.2.2.2.1
  have a4 := A.1.2.2.2.2.2.1
  have f1 : (rmO lim (d - 1) h).frames = d - 1 + 8 := rfl
  have f2 : (rmO lim (d - 1) h).locals = 40 * (d - 1) + 200 := rfl
  rw [f1, f2]
  omega
theorem call_pre {as : List AV} (C : Cx G lim d j p s m args meth c Rm h0) (A : At0 G lim j h0 h H locs cells slots lsA ls) : ∀ U : State, U.heap = H → s.WarmedH U.vm → PcJ G lim as h (as.map toV).toArray U := fun U hU hW => ⟨rfl, Fs.warm hW C.fs, by rw [hU]; exact A.1⟩
theorem Met_of {jj : Nat} {as : List AV} {R' : RT} (hM : MJ G lim l d jj as h R' (fun _ _ => False)) : Met l (mrow jj).1 (mws jj) (rmO lim d h) (PcJ G lim as h) (QR G lim jj R') (lim.1 - hsz h) (lim.2 - hsu h) (fre G) := by
  intro p e a1 a2 a3 s m args below a4 a5 a6 a7
  obtain ⟨n, o, b1, b2, b3, b4⟩ := hM p e a1 a2 a3 s m args below a4 a5 a6 a7
  refine ⟨n, o, b1, b2, b3, ?_⟩
  rcases b4 with q | ⟨q, -, E, ce, L, ⟨n, h', -, -, -, q, -⟩, -⟩
  · exact q
  · exact q.elim
/-- words of a call -/
theorem call_ws {jj : Nat} (C : Cx G lim d j p s m args meth c Rm h0) (hj : jj < 274) : ∀ w ∈ mws jj, ∀ (a' : Array Value) (U : State), s.WarmedH U.vm → w.before a' U = true := pay_in C.ts (mws_good hj)
theorem call_ini {jj : Nat} (C : Cx G lim d j p s m args meth c Rm h0) (hj : jj < 274) (ho : mown jj < 9) : (Cond.initialized (mrow jj).1.cls).before args s = true := by
  obtain ⟨m1, m2, m3, m4, m5, m6, m7, m8⟩ := mok hj ho
  have h := C.ts _ (w_ini m7)
  rw [cn2_own ho] at h
  rw [m1]; exact h
theorem call_np {jj : Nat} (hj : jj < 274) (ho : mown jj < 9) : ∀ sig, parseMethodDescriptor (mrow jj).1.desc = some sig → mNp.getD jj 0 = sig.parameters.length := by
  obtain ⟨m1, m2, -⟩ := mok hj ho
  intro sig hs
  rw [hs] at m2
  exact (Option.some.inj m2).symm
theorem call_B {jj k : Nat} (C : Cx G lim d j p s m args meth c Rm h0) (A : At0 G lim j h0 h H locs cells slots lsA ls) (hd : 0 < d) (hj : jj < 274) (ho : mown jj < 9) (hmo : mown j < 9) (hl : (mown j, k, jj) ∈ mlX) (hn : (mrow jj).2.2.2.2 = none) :
    CallB Rm s args (cname (mown j)) k (mrow jj).1 (mrow jj).2.1 (mrow jj).2.2.1 (mrow jj).2.2.2.1 (mws jj) (rmO lim (d - 1) h) (lim.1 - hsz h) (lim.2 - hsu h) (mNp.getD jj 0) := by
  obtain ⟨r1, r2, -, -⟩ := call_room C A hd hj ho
  obtain ⟨m1, -⟩ := mok hj ho
  have hcw : cw jj = .code (mrow jj).1 (mrow jj).2.1 (mrow jj).2.2.1 (mrow jj).2.2.2.1 := by unfold cw; rw [hn]
  have hml := C.ts _ (w_ml hmo hl)
  rw [my_row hj] at hml
  refine ⟨rfl, rfl, r1, r2, call_ws C hj, by unfold mws; rw [hcw]; exact List.mem_cons_self, ?_, call_ini C hj ho, ⟨by rw [m1]; exact (plain_own ho).2.1, by rw [m1]; exact (plain_own ho).2.2⟩, call_np hj ho, hml⟩
  rw [← hcw]; exact C.ts _ (TW_of (cw_in hj).1 (cw_in hj).2)
theorem sn_calls (hjj : j < 274 ∨ j = 300) (C : Cx G lim d j p s m args meth c Rm h0) (A : At0 G lim j h0 h H locs cells slots lsA ls) (hmo : mown j < 9) (hho : hokA (mown j) (mhh j) (hof j) = true) {i : Ins} {jj k : Nat} {as r : List AV} (hj : jj < 274) (ho : mown jj < 9) (hl : (mown j, k, jj) ∈ mlX) (hst : jj ∈ stX) (hn : as.length = mNp.getD jj 0)
    (hi : i.2.2.2.1 = pc + 3) (hrc : i.2.2.2.2.1 = ((mRc.getD jj 0 : Nat) : Int)) (hdec : decode (mby j) pc = .ok (.invokestatic k, 3)) (hr : catS r ≤ 8) (hc1 : ∀ v ∈ as, (toV v).category = 1)
    (hf : callZ (Snd G lim l) d jj as h (rt_to (fun pc ls st h => Snd G lim l d j pc ls st h R X) i ls r) (hx_to (fun pc ls st h => Snd G lim l d j pc ls st h R X) X (hndj j pc) ls)) : TG G lim l j p e s m args below meth c Rm H locs cells slots R X pc lsA ((as.reverse ++ r).map toV) := by
  obtain ⟨hd, Q', Y', hs, hQ, hY⟩ := hf
  obtain ⟨m1, m2, m3, m4, m5, m6, m7, m8⟩ := mok hj ho
  rw [if_pos hst] at m6
  have hM := MJ_of hj ho (by omega) hc1 hs
  have hrm := call_room C A hd hj ho
  have hlA : lsA.size = mnL j := A.2.2.2.2.2.1.1
  have hW : 2 * (F0 m pc lsA ((as.reverse ++ r).map toV)).monitorRoom + ((r.map toV).map fun v => v.category).sum ≤ 8 := by rw [catS_sum]; show 2 * 0 + _ ≤ 8; omega
  have hret : retOK (mRc.getD jj 0) (mrt jj) = true := by rw [mrt_row hj]; exact m5
  have hstk : (F0 m pc lsA ((as.reverse ++ r).map toV)).stack = (as.map toV).reverse ++ r.map toV := by show (as.reverse ++ r).map toV = _; rw [List.map_append, List.map_reverse]
  have hlen : (as.map toV).length = mNp.getD jj 0 := by rw [List.length_map]; exact hn
  have S : CallFix p m c (mby j) (mnL j) s args TW (cname (mown j)) := ⟨C.1, C.2.1, C.2.2.1, C.own, C.ts⟩
  have hpr : PreS s H (PcJ G lim as h) (as.map toV) := ⟨PcJ_blind G lim as h, call_pre C A⟩
  cases hh : (mrow jj).2.2.2.2 with
  | none =>
    refine after_run C A (vx_runS S hM ⟨call_B C A hd hj ho hmo hl hh, ?_⟩ hpr rfl hlen hlA hstk hW hdec ⟨hrm.2.2.1, hrm.2.2.2⟩) (fun v h' hv hnn H' locs' cells' slots' A' => sn_rt C hi hrc hret (hQ v h' hv) hnn A') (fun n h' n1 n2 hx H' locs' cells' slots' q ce A' q1 q2 q3 => sn_hx hjj C hmo hho n1 n2 (hY n h' hx) A' q1 q2 q3)
    have := C.ts _ (w_st hst); rw [my_row hj] at this; exact this
  | some hq =>
    have hcw : cw jj = .codeWith (mrow jj).1 (mrow jj).2.1 (mrow jj).2.2.1 (mrow jj).2.2.2.1 hq := by unfold cw; rw [hh]
    have hml := C.ts _ (w_ml hmo hl)
    have hsst := C.ts _ (w_st hst)
    rw [my_row hj] at hml hsst
    refine after_run C A (vx_runSX (hh := hq) (bytes := (mrow jj).2.1) (maxL := (mrow jj).2.2.1) (ret := (mrow jj).2.2.2.1) S hM ⟨⟨rfl, rfl, hrm.1, hrm.2.1, call_ws C hj, by unfold mws; rw [hcw]; exact List.mem_cons_self⟩, by rw [← hcw]; exact C.ts _ (TW_of (cw_in hj).1 (cw_in hj).2), call_ini C hj ho, ⟨by rw [m1]; exact (plain_own ho).2.1, by rw [m1]; exact (plain_own ho).2.2⟩, call_np hj ho, hml, hsst⟩ hpr rfl hlen hlA hstk hW hdec ⟨hrm.2.2.1, hrm.2.2.2⟩) (fun v h' hv hnn H' locs' cells' slots' A' => sn_rt C hi hrc hret (hQ v h' hv) hnn A') (fun n h' n1 n2 hx H' locs' cells' slots' q ce A' q1 q2 q3 => sn_hx hjj C hmo hho n1 n2 (hY n h' hx) A' q1 q2 q3)
theorem sn_callv (hjj : j < 274 ∨ j = 300) (C : Cx G lim d j p s m args meth c Rm h0) (A : At0 G lim j h0 h H locs cells slots lsA ls) (hmo : mown j < 9) (hho : hokA (mown j) (mhh j) (hof j) = true) {i : Ins} {jj k a : Nat} {as r : List AV} (hj : jj < 274) (ho : mown jj < 8) (hl : (mown j, k, jj) ∈ mlX) (hin : jj ∈ inX) (hsel : (mown jj, jj, jj) ∈ selX) (hn : as.length = mNp.getD jj 0)
    (hi : i.2.2.2.1 = pc + 3) (hrc : i.2.2.2.2.1 = ((mRc.getD jj 0 : Nat) : Int)) (hdec : decode (mby j) pc = .ok (.invokevirtual k, 3)) (hr : catS r ≤ 8) (hc1 : ∀ v ∈ as, (toV v).category = 1) (ha : hk h a = mown jj) (hnn : (mrow jj).2.2.2.2 = none)
    (hf : callZ (Snd G lim l) d jj (vr (some a) :: as) h (rt_to (fun pc ls st h => Snd G lim l d j pc ls st h R X) i ls r) (hx_to (fun pc ls st h => Snd G lim l d j pc ls st h R X) X (hndj j pc) ls)) : TG G lim l j p e s m args below meth c Rm H locs cells slots R X pc lsA ((as.reverse ++ vr (some a) :: r).map toV) := by
  obtain ⟨hd, Q', Y', hs, hQ, hY⟩ := hf
  have ho9 : mown jj < 9 := by omega
  obtain ⟨m1, m2, m3, m4, m5, m6, m7, m8⟩ := mok hj ho9
  have hM := MJ_of hj ho9 (by rw [List.length_cons]; rw [if_neg (in_not_st hin)] at m6; omega) (fun v hv => by rcases List.mem_cons.mp hv with rfl | hv; rfl; exact hc1 v hv) hs
  have hrm := call_room C A hd hj ho9
  have hlA : lsA.size = mnL j := A.2.2.2.2.2.1.1
  have hW : 2 * (F0 m pc lsA ((as.reverse ++ vr (some a) :: r).map toV)).monitorRoom + ((r.map toV).map fun v => v.category).sum ≤ 8 := by rw [catS_sum]; show 2 * 0 + _ ≤ 8; omega
  have hret : retOK (mRc.getD jj 0) (mrt jj) = true := by rw [mrt_row hj]; exact m5
  have hstk : (F0 m pc lsA ((as.reverse ++ vr (some a) :: r).map toV)).stack = (as.map toV).reverse ++ .ref a :: r.map toV := by show (as.reverse ++ vr (some a) :: r).map toV = _; rw [List.map_append, List.map_reverse]; rfl
  have hlen : (as.map toV).length = mNp.getD jj 0 := by rw [List.length_map]; exact hn
  have S : CallFix p m c (mby j) (mnL j) s args TW (cname (mown j)) := ⟨C.1, C.2.1, C.2.2.1, C.own, C.ts⟩
  obtain ⟨-, cell, q1, q2, q3, -⟩ := (A.1.cell a).1 (by rw [ha]; exact ho)
  have hKn := (C.kn ho).2.1
  rw [ha] at q2
  have hpr : PreV s H (cname (mown jj)) a (PcJ G lim (vr (some a) :: as) h) (as.map toV) := ⟨PcJ_blind G lim _ h, ⟨cell, q1, by rw [q3]; rfl, by rw [q2]; exact hKn⟩, call_pre (as := vr (some a) :: as) C A⟩
  have w1 := C.ts _ (w_in hin)
  have w2 := C.ts _ (w_sel ho9 hsel)
  rw [my_row hj] at w1 w2
  exact after_run C A (vx_runV S hM ⟨call_B C A hd hj ho9 hmo hl hnn, w1, w2⟩ hpr rfl hlen hlA hstk hW hdec ⟨hrm.2.2.1, hrm.2.2.2⟩) (fun v h' hv hnn H' locs' cells' slots' A' => sn_rt C hi hrc hret (hQ v h' hv) hnn A') (fun n h' n1 n2 hx H' locs' cells' slots' q ce A' q1 q2 q3 => sn_hx hjj C hmo hho n1 n2 (hY n h' hx) A' q1 q2 q3)
theorem run_of_va {mc ms : Nat} {g : JFrame} {rest : List Value} {Qa : State → Outcome → State → Prop} {XC : String → State → State → Prop} {free : Addr → Prop} (hr : va_Run p l e Rm s m args below meth c H locs cells slots mc ms g rest Qa free) : vx_Run p l e Rm s m args below meth c H locs cells slots mc ms g rest Qa XC free :=
  fun T hT Y => Or.inl (hr T hT Y)
theorem sn_calli (C : Cx G lim d j p s m args meth c Rm h0) (A : At0 G lim j h0 h H locs cells slots lsA ls) (hmo : mown j < 9) {i : Ins} {jj k a : Nat} {as r : List AV} (hj : jj < 274) (ho : mown jj < 8) (hl : (mown j, k, jj) ∈ mlX) (hin : jj ∈ inX) (hnm : (my jj).name = "<init>") (hn : as.length = mNp.getD jj 0)
    (hi : i.2.2.2.1 = pc + 3) (hrc : i.2.2.2.2.1 = ((mRc.getD jj 0 : Nat) : Int)) (hdec : decode (mby j) pc = .ok (.invokespecial k, 3)) (hr : catS r ≤ 8) (hc1 : ∀ v ∈ as, (toV v).category = 1) (hnn : (mrow jj).2.2.2.2 = none) (hvo : (mrow jj).2.2.2.1 = none)
    (hf : callZ (Snd G lim l) d jj (vr (some a) :: as) h (rt_to (fun pc ls st h => Snd G lim l d j pc ls st h R X) i ls r) (fun _ _ => False)) : TG G lim l j p e s m args below meth c Rm H locs cells slots R X pc lsA ((as.reverse ++ vr (some a) :: r).map toV) := by
  obtain ⟨hd, Q', Y', hs, hQ, hY⟩ := hf
  have ho9 : mown jj < 9 := by omega
  obtain ⟨m1, m2, m3, m4, m5, m6, m7, m8⟩ := mok hj ho9
  have hs : Snd G lim l (d - 1) jj 0 (ent jj (vr (some a) :: as)) [] h Q' (fun _ _ => False) := by
    intro p e s m args below meth c Rm h0 C2 H locs cells slots lsA r1 r2 r3 r4 r5 T hT Z
    obtain ⟨t, b1, o, b2, b3, b4⟩ := hs p e s m args below meth c Rm h0 C2 H locs cells slots lsA r1 r2 r3 r4 r5 T hT Z
    refine ⟨t, b1, o, b2, b3, ?_⟩
    rcases b4 with q | ⟨q, -, E, ce, L, ⟨n, h', -, -, -, q, -⟩, -⟩
    · exact Or.inl q
    · exact (hY n h' q).elim
  have hM := Met_of (MJ_of hj ho9 (by rw [List.length_cons]; rw [if_neg (in_not_st hin)] at m6; omega) (fun v hv => by rcases List.mem_cons.mp hv with rfl | hv; rfl; exact hc1 v hv) hs)
  have hrm := call_room C A hd hj ho9
  have hlA : lsA.size = mnL j := A.2.2.2.2.2.1.1
  have hW : 2 * (F0 m pc lsA ((as.reverse ++ vr (some a) :: r).map toV)).monitorRoom + ((r.map toV).map fun v => v.category).sum ≤ 8 := by rw [catS_sum]; show 2 * 0 + _ ≤ 8; omega
  have hret : retOK (mRc.getD jj 0) (mrt jj) = true := by rw [mrt_row hj]; exact m5
  have hstk : (F0 m pc lsA ((as.reverse ++ vr (some a) :: r).map toV)).stack = (as.map toV).reverse ++ .ref a :: r.map toV := by show (as.reverse ++ vr (some a) :: r).map toV = _; rw [List.map_append, List.map_reverse]; rfl
  have hlen : (as.map toV).length = mNp.getD jj 0 := by rw [List.length_map]; exact hn
  have S : CallFix p m c (mby j) (mnL j) s args TW (cname (mown j)) := ⟨C.1, C.2.1, C.2.2.1, C.own, C.ts⟩
  have hpr : PreS s H (PcJ G lim (vr (some a) :: as) h) (.ref a :: as.map toV) := ⟨PcJ_blind G lim _ h, call_pre (as := vr (some a) :: as) C A⟩
  have w1 := C.ts _ (w_in hin)
  rw [my_row hj] at w1 hnm
  have hB := call_B C A hd hj ho9 hmo hl hnn
  rw [hvo] at hB
  exact after_run (X' := fun _ _ => False) C A (run_of_va (va_runI S hM ⟨hB, hnm, w1⟩ hpr rfl hlen hlA hstk hW hdec ⟨hrm.2.2.1, hrm.2.2.2⟩)) (fun v h' hv hnn H' locs' cells' slots' A' => sn_rt C hi hrc hret (hQ v h' hv) hnn A') (fun n h' n1 n2 hx => hx.elim)
theorem w_mn {o k j : Nat} (ho : o < 9) (h : (o, k, j, 6) ∈ mnX) : Cond.methodLinkNest (cname o) k (my j) "IntervalTree" ∈ XW := by
  obtain ⟨w, hw, hx⟩ := mem_ex eqMn (List.mem_map_of_mem (f := fun (q : Nat × Nat × Nat × Nat) => (cn2 q.1, q.2.1, my q.2.2.1, cn2 q.2.2.2)) h)
  unfold exMn at hx
  split at hx
  · have hx := Option.some.inj hx
    simp only [Prod.mk.injEq] at hx
    obtain ⟨b1, b2, b3, b4⟩ := hx
    rw [cn2_own ho] at b1
    have b4 : _ = "IntervalTree" := b4
    subst b1; subst b2; subst b3; subst b4
    exact List.mem_filter.mpr ⟨hw, rfl⟩
  · cases hx
theorem sn_calln (C : Cx G lim d j p s m args meth c Rm h0) (A : At0 G lim j h0 h H locs cells slots lsA ls) (hmo : mown j < 9) {i : Ins} {jj k : Nat} {as r : List AV} (hj : jj < 274) (ho : mown jj < 9) (hl : (mown j, k, jj, 6) ∈ mnX) (hst : jj ∈ stX) (hn : as.length = mNp.getD jj 0)
    (hi : i.2.2.2.1 = pc + 3) (hrc : i.2.2.2.2.1 = ((mRc.getD jj 0 : Nat) : Int)) (hdec : decode (mby j) pc = .ok (.invokestatic k, 3)) (hr : catS r ≤ 8) (hc1 : ∀ v ∈ as, (toV v).category = 1) (hnn : (mrow jj).2.2.2.2 = none)
    (hf : callZ (Snd G lim l) d jj as h (rt_to (fun pc ls st h => Snd G lim l d j pc ls st h R X) i ls r) (fun _ _ => False)) : TG G lim l j p e s m args below meth c Rm H locs cells slots R X pc lsA ((as.reverse ++ r).map toV) := by
  obtain ⟨hd, Q', Y', hs, hQ, hY⟩ := hf
  obtain ⟨m1, m2, m3, m4, m5, m6, m7, m8⟩ := mok hj ho
  rw [if_pos hst] at m6
  have hs : Snd G lim l (d - 1) jj 0 (ent jj as) [] h Q' (fun _ _ => False) := by
    intro p e s m args below meth c Rm h0 C2 H locs cells slots lsA r1 r2 r3 r4 r5 T hT Z
    obtain ⟨t, b1, o, b2, b3, b4⟩ := hs p e s m args below meth c Rm h0 C2 H locs cells slots lsA r1 r2 r3 r4 r5 T hT Z
    refine ⟨t, b1, o, b2, b3, ?_⟩
    rcases b4 with q | ⟨q, -, E, ce, L, ⟨n, h', -, -, -, q, -⟩, -⟩
    · exact Or.inl q
    · exact (hY n h' q).elim
  have hM := Met_of (MJ_of hj ho (by omega) hc1 hs)
  have hrm := call_room C A hd hj ho
  have hlA : lsA.size = mnL j := A.2.2.2.2.2.1.1
  have hW : 2 * (F0 m pc lsA ((as.reverse ++ r).map toV)).monitorRoom + ((r.map toV).map fun v => v.category).sum ≤ 8 := by rw [catS_sum]; show 2 * 0 + _ ≤ 8; omega
  have hret : retOK (mRc.getD jj 0) (mrt jj) = true := by rw [mrt_row hj]; exact m5
  have hstk : (F0 m pc lsA ((as.reverse ++ r).map toV)).stack = (as.map toV).reverse ++ r.map toV := by show (as.reverse ++ r).map toV = _; rw [List.map_append, List.map_reverse]
  have hlen : (as.map toV).length = mNp.getD jj 0 := by rw [List.length_map]; exact hn
  have S : CallFix p m c (mby j) (mnL j) s args TW (cname (mown j)) := ⟨C.1, C.2.1, C.2.2.1, C.own, C.ts⟩
  have hpr : PreS s H (PcJ G lim as h) (as.map toV) := ⟨PcJ_blind G lim as h, call_pre C A⟩
  have hsst := C.ts _ (w_st hst)
  rw [my_row hj] at hsst
  have hlk := C.fs.2.2.1 _ (w_mn hmo hl)
  rw [my_row hj] at hlk
  have hcw : cw jj = .code (mrow jj).1 (mrow jj).2.1 (mrow jj).2.2.1 (mrow jj).2.2.2.1 := by unfold cw; rw [hnn]
  have hcn : va_CN Rm s args (cname (mown j)) k (mrow jj).1 "IntervalTree" (mrow jj).2.1 (mrow jj).2.2.1 (mrow jj).2.2.2.1 (mws jj) (rmO lim (d - 1) h) (lim.1 - hsz h) (lim.2 - hsu h) (mNp.getD jj 0) :=
    ⟨⟨rfl, rfl, hrm.1, hrm.2.1, call_ws C hj, by unfold mws; rw [hcw]; exact List.mem_cons_self⟩, by rw [← hcw]; exact C.ts _ (TW_of (cw_in hj).1 (cw_in hj).2), call_ini C hj ho, ⟨by rw [m1]; exact (plain_own ho).2.1, by rw [m1]; exact (plain_own ho).2.2⟩, call_np hj ho, va_Nw.use rfl hlk⟩
  exact after_run (X' := fun _ _ => False) C A (run_of_va (va_runSN S hM ⟨hcn, hsst, trivial⟩ hpr rfl hlen hlA hstk hW hdec ⟨hrm.2.2.1, hrm.2.2.2⟩)) (fun v h' hv hnn H' locs' cells' slots' A' => sn_rt C hi hrc hret (hQ v h' hv) hnn A') (fun n h' n1 n2 hx => hx.elim)
end SN
