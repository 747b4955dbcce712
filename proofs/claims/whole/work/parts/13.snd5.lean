/-! ===== soundness: throws ===== -/
def exI (n : Nat) : Nat := match n with
  | 1 => cN2.idxOf "java/lang/IllegalArgumentException"
  | 2 => cN2.idxOf "java/lang/IllegalStateException"
  | 3 => cN2.idxOf "java/util/NoSuchElementException"
  | _ => cN2.idxOf "java/lang/IndexOutOfBoundsException"
theorem exI_ok : ((List.range 5).all fun n => (n == 0) || (decide (cn2 (exI n) = exN n) && decide (exI n ∈ iniX))) = true := by decide +kernel
theorem XLn_ok : (XLn.all fun q => decide ((q.1, q.2.1, exI q.2.2) ∈ clX) && decide (1 ≤ q.2.2) && decide (q.2.2 < 5)) = true := by decide +kernel
abbrev exS : List String := ["java/lang/RuntimeException", "java/lang/Exception"]
def atOK (ic n : Nat) : Bool := (vx_atS "IntervalTree" ic (exN n) exS).all fun w => decide (w ∈ lw_tbl) && (goodWord w || (xword w && decide (w ∈ tables_1))) && vx_ot w
theorem at_1 : atOK 70 1 = true := by decide +kernel
theorem at_2 : atOK 85 2 = true := by decide +kernel
def atOK3 (ic : Nat) : Bool := (ny_at "IntervalTree" ic (exN 3) 13 prog_19_method_4_code exS).all fun w => decide (w ∈ lw_tbl) && (goodWord w || (xword w && decide (w ∈ tables_1))) && vx_ot w
theorem at_3 : atOK3 115 = true := by decide +kernel
theorem r3_0 : decode prog_19_method_4_code 0 = .ok (.aload_n 0, 1) := by decide +kernel
theorem r3_1 : decode prog_19_method_4_code 1 = .ok (.aload_n 1, 1) := by decide +kernel
theorem r3_2 : decode prog_19_method_4_code 2 = .ok (.invokespecial 13, 3) := by decide +kernel
theorem r3_5 : decode prog_19_method_4_code 5 = .ok (.return_, 1) := by decide +kernel
theorem at_4 : atOK 224 4 = true := by decide +kernel
theorem at_ok {ic n : Nat} (h : (ic, n) ∈ icX) : ((n ≠ 3 ∧ atOK ic n = true) ∨ (n = 3 ∧ atOK3 ic = true)) ∧ 1 ≤ n ∧ n < 5 := by
  unfold icX at h
  simp only [List.mem_cons, Prod.mk.injEq, List.not_mem_nil, or_false] at h
  rcases h with ⟨rfl, rfl⟩ | ⟨rfl, rfl⟩ | ⟨rfl, rfl⟩ | ⟨rfl, rfl⟩
  · exact ⟨Or.inl ⟨by decide, at_1⟩, by decide, by decide⟩
  · exact ⟨Or.inl ⟨by decide, at_2⟩, by decide, by decide⟩
  · exact ⟨Or.inr ⟨rfl, at_3⟩, by decide, by decide⟩
  · exact ⟨Or.inl ⟨by decide, at_4⟩, by decide, by decide⟩
theorem hh6 : ((List.range 274).all fun j => !(decide (mown j < 8)) || (mhh j).isEmpty) = true := by decide +kernel
section SN
variable {G : GT} {lim : Nat × Nat} {l : Launch} {d j : Nat} {p : Program} {e : Env} {s : State} {m : MethodId} {args : Array Value} {below : List Frame} {meth : Method} {c : Code} {Rm : Room} {h0 : AHp}
variable {H : Heap} {locs : List Loc} {cells slots : Nat} {lsA : Array Slot} {ls : List (Option AV)} {st r : List AV} {h : AHp} {R : RT} {X : XT} {pc : Nat}
/-- grown behind by at most one cell of six slots -/
theorem Rep.grown {t : State} {L : List Loc} (hR : Rep G lim H h) (hR0 : Rep G lim s.heap h0) (a1 : cells + hsz h0 = hsz h) (a2 : slots + hsu h0 = hsu h) (l1 : hsz h + 1 ≤ lim.1) (l2 : hsu h + 6 ≤ lim.2) (e1 : H.size ≤ t.heap.size) (e2 : ∀ q : Nat, q < H.size → t.heap[q]? = H[q]?)
    (hsm : s.sameButNew ({ t with vm := s.vm } : State) L (cells + 1) (slots + 6)) : ∃ sz u, hsz h ≤ sz ∧ sz ≤ hsz h + 1 ∧ hsu h ≤ u ∧ u ≤ hsu h + 6 ∧ Rep G lim t.heap (gr h sz u) := by
  obtain ⟨-, m2, m3, -, m5, m6⟩ := hsm
  have m2 : s.heap.size ≤ t.heap.size := m2
  have m3 : t.heap.size ≤ s.heap.size + (cells + 1) := m3
  have m5 : ssum s.heap.size t.heap ≤ slots + 6 := m5
  have z0 : s.heap.size = hsz h0 := hR0.1
  have z1 : H.size = hsz h := hR.1
  have b0 : G.1 ≤ hsz h0 := hR0.2.1
  have s1 : ssum G.1 t.heap = ssum G.1 s.heap + ssum s.heap.size t.heap := by
    refine ssum_split (by omega) m2 fun q hq => ?_
    obtain ⟨c', f1, -, f3, -⟩ := m6 q _ (Array.getElem?_eq_getElem hq)
    have f1 : t.heap[q]? = some c' := f1
    rw [f1, Array.getElem?_eq_getElem hq]; simp [f3]
  have s2 : ssum G.1 t.heap = ssum G.1 H + ssum H.size t.heap := ssum_split (by rw [z1]; exact hR.2.1) e1 fun q hq => by rw [e2 q hq]
  have s3 : ssum G.1 s.heap = hsu h0 := hR0.2.2.2.1
  have s4 : ssum G.1 H = hsu h := hR.2.2.2.1
  refine ⟨t.heap.size, ssum G.1 t.heap, by omega, by omega, by omega, by omega, rfl, ?_, fun q hq => ?_, rfl, ?_, ?_, fun a ha => ?_, fun a => ?_⟩
  · have := hR.2.1
    show G.1 ≤ t.heap.size
    omega
  · have := hR.2.1
    rw [e2 q (by omega)]; exact hR.2.2.1 q hq
  · show t.heap.size ≤ lim.1
    omega
  · show ssum G.1 t.heap ≤ lim.2
    omega
  · show a < t.heap.size
    have ha : (if a < hsz h then hk h a else 99) < 15 := ha
    by_cases q : a < hsz h
    · omega
    · rw [if_neg q] at ha; omega
  · by_cases q : a < hsz h
    · exact (hR.cell a).keep (e2 a (by omega)) (if_pos q) rfl rfl rfl rfl
    · have q2 : hk (gr h t.heap.size (ssum G.1 t.heap)) a = 99 := if_neg q
      refine ⟨fun z => ?_, fun _ z => ?_, fun z => ?_⟩
      · rw [q2] at z; omega
      · rw [q2] at z; omega
      · rw [q2] at z; omega
theorem va_S_of (C : Cx G lim d j p s m args meth c Rm h0) (A : At0 G lim j h0 h H locs cells slots lsA ls) : va_S (fun q => G.1 ≤ q) s.heap H locs := by
  have hR0 : Rep G lim s.heap h0 := C.2.2.2.2.2.2.2.2.2.2.1
  have a1 := A.2.2.1
  have z0 : s.heap.size = hsz h0 := hR0.1
  have z1 : H.size = hsz h := A.1.1
  refine ⟨by omega, fun q _ hq => ?_, A.2.1⟩
  have hq : q < G.1 := Nat.not_le.mp hq
  rw [A.1.2.2.1 q hq, hR0.2.2.1 q hq]
theorem sn_throw (hl : l.stackTraces = false) (C : Cx G lim d j p s m args meth c Rm h0) (A : At0 G lim j h0 h H locs cells slots lsA ls) {ik n : Nat} (hj : j < 274) (ho : mown j = 6) (hX : (6, ik, n) ∈ XLn) (hd : decode (mby j) pc = .ok (.new ik, 3)) (ht : okThrow (mby j) pc n = true)
    (l1 : hsz h + 1 ≤ lim.1) (l2 : hsu h + 6 ≤ lim.2) (hf : ∀ s u, hsz h ≤ s → s ≤ hsz h + 1 → hsu h ≤ u → u ≤ hsu h + 6 → X n (gr h s u)) : TG G lim l j p e s m args below meth c Rm H locs cells slots R X pc lsA [] := by
  have hR0 : Rep G lim s.heap h0 := C.2.2.2.2.2.2.2.2.2.2.1
  have hr := C.room
  have a1 := A.2.2.1
  have a2 := A.2.2.2.1
  have hx := List.all_eq_true.mp XLn_ok _ hX
  simp only [Bool.and_eq_true, decide_eq_true_eq] at hx
  obtain ⟨⟨hx1, hx2⟩, hx3⟩ := hx
  have hn := List.all_eq_true.mp exI_ok n (List.mem_range.mpr hx3)
  have hn0 : (n == 0) = false := by simp; omega
  rw [hn0, Bool.false_or, Bool.and_eq_true] at hn
  have hn1 : cn2 (exI n) = exN n := of_decide_eq_true hn.1
  have hn2 : exI n ∈ iniX := of_decide_eq_true hn.2
  have hown : s.vm.findClass "IntervalTree" = some m.cls := by have := C.own; rw [ho] at this; exact this
  have hcl : (Cond.classLink "IntervalTree" ik (exN n)).before args s = true := by
    obtain ⟨w, hw, hw2⟩ := mem_ex eqCl (List.mem_map_of_mem (f := fun (q : Nat × Nat × Nat) => (cn2 q.1, q.2.1, cn2 q.2.2)) hx1)
    unfold exCl at hw2
    split at hw2
    · have hw2 := Option.some.inj hw2
      simp only [Prod.mk.injEq] at hw2
      obtain ⟨b1, b2, b3⟩ := hw2
      have b1 : _ = "IntervalTree" := b1
      rw [hn1] at b3
      subst b1; subst b2; subst b3
      exact C.ts _ (TW_of hw rfl)
    · cases hw2
  have hini : (Cond.initialized (exN n)).before args s = true := by
    obtain ⟨w, hw, hw2⟩ := mem_ex eqIni (List.mem_map_of_mem (f := cn2) hn2)
    unfold exIni at hw2
    split at hw2
    · have hw2 := Option.some.inj hw2
      rw [hn1] at hw2
      subst hw2
      exact C.ts _ (TW_of hw rfl)
    · cases hw2
  have hfit : Bundle.fit (exN n) = true := by
    rcases (show n = 1 ∨ n = 2 ∨ n = 3 ∨ n = 4 by omega) with rfl | rfl | rfl | rfl <;> decide +kernel
  have hfits : ∀ z ∈ exS, Bundle.fit z = true := by decide +kernel
  have hatw : ∀ L : List Cond, L.all (fun w => decide (w ∈ lw_tbl) && (goodWord w || (xword w && decide (w ∈ tables_1))) && vx_ot w) = true → (∀ w ∈ L, w.before args s = true) ∧ ∀ w ∈ Cond.classLink "IntervalTree" ik (exN n) :: Cond.initialized (exN n) :: L, vx_ot w = true := by
    intro L hat
    refine ⟨fun w hw => ?_, fun w hw => ?_⟩
    · have := List.all_eq_true.mp hat w hw
      simp only [Bool.and_eq_true, Bool.or_eq_true, decide_eq_true_eq] at this
      obtain ⟨⟨b1, b2⟩, -⟩ := this
      rcases b2 with b2 | ⟨b2, b3⟩
      · exact C.ts w (List.mem_filter.mpr ⟨b1, b2⟩)
      · have hxw := C.fs.2.2.1 w (List.mem_filter.mpr ⟨b3, b2⟩)
        refine va_Nw.use ?_ hxw
        unfold xword at b2
        split at b2 <;> first | rfl | cases b2
    · rcases List.mem_cons.mp hw with rfl | hw
      · rfl
      · rcases List.mem_cons.mp hw with rfl | hw
        · rfl
        · have := List.all_eq_true.mp hat w hw
          simp only [Bool.and_eq_true] at this
          exact this.2
  have hZ : ∀ a : Nat, a < G.2.1.size → ¬ G.1 ≤ a → s.heap[a]? = G.2.1[a]? := fun a _ ha => hR0.2.2.1 a (Nat.not_le.mp ha)
  have hU := vx_Zq.kept C.fs.2.2.2.2.2.1 hZ
  have hN := vx_Zq.kept C.fs.2.2.2.2.2.2.1 hZ
  have hout : ∀ x ∈ c.exceptionTable.toList, False := by
    have h6 := List.all_eq_true.mp hh6 j (List.mem_range.mpr hj)
    rw [ho] at h6
    have h7 : (mhh j).isEmpty = true := h6
    rw [C.2.2.2.2.2.2.2.2.1, List.isEmpty_iff.mp h7]
    intro x hx
    simp [tableOf] at hx
  -- what is thrown, tightly; then as it is owed
  have hweak : ∀ (k : W p l e Rm s m args below meth c H locs cells slots (vx_MQ below (fun _ _ _ _ => False) (fun E _ t => E = exN n ∧ H.size ≤ t.heap.size ∧ ∀ q : Nat, q < H.size → t.heap[q]? = H[q]?) args s (cells + 1) (slots + 6) (fre G)) (F0 m pc lsA [])), TG G lim l j p e s m args below meth c Rm H locs cells slots R X pc lsA [] := by
    intro k T hT Y
    obtain ⟨t, s1, o, s2, s3, s4⟩ := k T hT Y
    refine ⟨t, s1, o, s2, s3, ?_⟩
    rcases s4 with ⟨q, -⟩ | ⟨q, q1, E, ce, L, ⟨q2, q3, q4⟩, q5, q6, q7, q8, q9, q10⟩
    · exact q.elim
    · subst q2
      obtain ⟨sz, u, g1, g2, g3, g4, g5⟩ := A.1.grown hR0 a1 a2 l1 l2 q3 q4 q9
      exact Or.inr ⟨q, q1, exN n, ce, L, ⟨n, gr h sz u, hx2, hx3, rfl, hf sz u g1 g2 g3 g4, g5⟩, q5, q6, q7, q8, q9.mono (by omega) (by omega), q10⟩
  unfold okThrow at ht
  split at ht
  · rename_i is d3 d4
    rw [Bool.and_eq_true] at ht
    obtain ⟨ht1, ht2⟩ := ht
    obtain ⟨q, hq1, hq2⟩ := List.any_eq_true.mp ht1
    have hq2 : q.1 = is := of_decide_eq_true hq2
    obtain ⟨sa, hsa⟩ := C.fs.2.2.2.2.1 q hq1
    rw [hq2] at hsa
    split at ht2
    · rename_i ic d6 d9
      have hic : (ic, n) ∈ icX := of_decide_eq_true ht2
      rcases (at_ok hic).1 with ⟨-, hat⟩ | ⟨hn3, hat⟩
      · exact hweak (vx_throwS C.1 C.2.1 hl hown hfit hfits hcl hini hsa (hatw _ hat).1 (hatw _ hat).2 hU hN (va_S_of C A) (by rw [C.2.2.1]; exact A.2.2.2.2.2.1.1) hd d3 d4 d6 d9 (fun x hx => (hout x hx).elim) (by show 2 + 3 < _; omega) (by show 0 + (13 * (2 + 1) + 43) ≤ _; omega) (by omega) (by omega) C.2.2.2.2.1 (fun t _ g1 g2 => ⟨rfl, g1, g2⟩) A.2.1 (Nat.le_refl _) (Nat.le_refl _))
      · subst hn3
        exact hweak (ny_throwS (x := ⟨r3_0, r3_1, r3_2, r3_5⟩) C.1 C.2.1 hl hown hfit hfits hcl hini hsa (hatw _ hat).1 (hatw _ hat).2 hU hN (va_S_of C A) (by rw [C.2.2.1]; exact A.2.2.2.2.2.1.1) hd d3 d4 d6 d9 (fun x hx => (hout x hx).elim) (by show 2 + 3 < _; omega) (by show 0 + (13 * (2 + 1) + 43) ≤ _; omega) (by omega) (by omega) C.2.2.2.2.1 (fun t _ g1 g2 => ⟨rfl, g1, g2⟩) A.2.1 (Nat.le_refl _) (Nat.le_refl _))
    · cases ht2
  · rename_i is d3 d4
    rw [Bool.and_eq_true] at ht
    obtain ⟨ht1, ht2⟩ := ht
    obtain ⟨q, hq1, hq2⟩ := List.any_eq_true.mp ht1
    have hq2 : q.1 = is := of_decide_eq_true hq2
    obtain ⟨sa, hsa⟩ := C.fs.2.2.2.2.1 q hq1
    rw [hq2] at hsa
    split at ht2
    · rename_i ic d6 d9
      have hic : (ic, n) ∈ icX := of_decide_eq_true ht2
      rcases (at_ok hic).1 with ⟨-, hat⟩ | ⟨hn3, hat⟩
      · exact hweak (vx_throwSW C.1 C.2.1 hl hown hfit hfits hcl hini hsa (hatw _ hat).1 (hatw _ hat).2 hU hN (va_S_of C A) (by rw [C.2.2.1]; exact A.2.2.2.2.2.1.1) hd d3 d4 d6 d9 (fun x hx => (hout x hx).elim) (by show 2 + 3 < _; omega) (by show 0 + (13 * (2 + 1) + 43) ≤ _; omega) (by omega) (by omega) C.2.2.2.2.1 (fun t _ g1 g2 => ⟨rfl, g1, g2⟩) A.2.1 (Nat.le_refl _) (Nat.le_refl _))
      · subst hn3
        exact hweak (ny_throwSW (x := ⟨r3_0, r3_1, r3_2, r3_5⟩) C.1 C.2.1 hl hown hfit hfits hcl hini hsa (hatw _ hat).1 (hatw _ hat).2 hU hN (va_S_of C A) (by rw [C.2.2.1]; exact A.2.2.2.2.2.1.1) hd d3 d4 d6 d9 (fun x hx => (hout x hx).elim) (by show 2 + 3 < _; omega) (by show 0 + (13 * (2 + 1) + 43) ≤ _; omega) (by omega) (by omega) C.2.2.2.2.1 (fun t _ g1 g2 => ⟨rfl, g1, g2⟩) A.2.1 (Nat.le_refl _) (Nat.le_refl _))
    · cases ht2
  · cases ht
end SN
