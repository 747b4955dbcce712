/-! ===== the law's start: what stands fast, and the claim out of a run of the abstract machine ===== -/
def R_law : String := "IntervalTreeLaw"
def lw_P (b : Addr) (xs : List Int32) (args : Array Value) (s : State) : Prop := args = #[.ref b] ∧ s.IntsAt b xs ∧ xs.length ≤ 2048 ∧ (Jvm.Cond.and given_1 narrow_1).before args s = true
def lw_Q (_ : Array Value) (s : State) (o : Outcome) (t : State) : Prop := o = .returned (some (.int 1)) ∧ Framed s o t [] 601024 7293034
def lw_Z (below : List Frame) (a : Array Value) (s : State) : State → Prop := fun t => ∃ o, t.status = .running ∧ Ended t below o ∧ lw_Q a s o t
def lw_At (p : Program) (s : State) (m : MethodId) (meth : Method) (c : Code) (b L : Nat) (xs : Nat → Int32) : Prop :=
  p.tables.exec = Jvm.exec ∧ c.code = code ∧ meth.sig.returnType = ret ∧ c.maxLocals = 7 ∧ s.vm.findClass R_law = some m.cls ∧ (∀ w ∈ lw_tbl, w.before #[Value.ref b] s = true) ∧ va_X b L xs s s.heap ∧ b < s.heap.size ∧ meth.locks = false ∧ (Jvm.Cond.and given_1 narrow_1).before #[Value.ref b] s = true ∧ c.exceptionTable.toList = []
def exSr : Cond → Option (String × Nat × String)
  | .stringRef c n t => some (c, n, t)
  | _ => none
set_option maxRecDepth 100000 in
set_option maxHeartbeats 4000000 in
theorem eqSr : tables_1.filterMap exSr = SLn.map (fun q => ("IntervalTree", q.1, q.2)) := rfl
set_option maxRecDepth 100000 in
theorem ex_all : (SLn.all fun q => decide (Cond.exactly (.string "IntervalTree" q.1) "java/lang/String" ∈ flatC (Jvm.Cond.and given_1 narrow_1))) = true := by decide +kernel
set_option maxRecDepth 100000 in
theorem nc_all : ((List.range 5).all fun a => (List.range 5).all fun b => (a == 0) || (b == 0) || (a == b) || decide (Cond.not (.castable (exN a) (exN b)) ∈ flatC (Jvm.Cond.and given_1 narrow_1))) = true := by decide +kernel
set_option maxRecDepth 100000 in
theorem zq_all : Cond.isRef (.static Bundle.tN "UNASSIGNED_STACK" Bundle.steD) ∈ flatC (Jvm.Cond.and given_1 narrow_1) ∧ Cond.isRef (.static Bundle.tN "SUPPRESSED_SENTINEL" Bundle.listD) ∈ flatC (Jvm.Cond.and given_1 narrow_1) ∧ Cond.laysStatic Bundle.tN "UNASSIGNED_STACK" Bundle.steD ∈ tables_1 ∧ Cond.laysStatic Bundle.tN "SUPPRESSED_SENTINEL" Bundle.listD ∈ tables_1 ∧ Cond.initialized Bundle.tN ∈ tables_1 := by decide +kernel
set_option maxRecDepth 100000 in
theorem ao_all : ((List.range 3).all fun c => decide (Cond.arrayOver (.object (cname c)) ∈ tables_1)) = true := by decide +kernel
set_option maxRecDepth 100000 in
theorem ins_all : ((List.range 8).all fun c => decide ((c, nfs.getD c 0) ∈ insX)) = true := by decide +kernel
theorem Fs_start {p : Program} {s : State} {m : MethodId} {meth : Method} {c : Code} {b L : Nat} {xs : Nat → Int32} (C0 : lw_At p s m meth c b L xs) : ∃ (dC : Nat → ClassId) (dI : Nat → Nat → Nat) (cA : Nat → ClassId), Fs (s.heap.size, s.heap, b, dC, dI, cA) s := by
  obtain ⟨hx, hb, hr, hml, hown, hts, hX, hbl, hlocks, hgv, htb⟩ := C0
  have hfl := flat_of_before _ hgv
  have hT1 : ∀ w ∈ tables_1, w.before #[Value.ref b] s = true := fun w hw => hts w (List.mem_append_right _ hw)
  have hTW : ∀ w ∈ TW, w.before #[Value.ref b] s = true := fun w hw => hts w (List.mem_filter.mp hw).1
  have hk : ∀ k : Nat, ∃ q : ClassId × (Nat → Nat), k < 8 → u_Kn s (cname k) (TT k) (nfs.getD k 0) q.1 q.2 := by
    intro k
    by_cases hk : k < 8
    · obtain ⟨cC, iS, h⟩ := u_known (C := cname k) (T := TT k) (N := nfs.getD k 0) (n := nfs.getD k 0) hTW (ws_in hk) (hTW _ (w_ins (by omega) (of_decide_eq_true (List.all_eq_true.mp ins_all k (List.mem_range.mpr hk)))))
      exact ⟨(cC, iS), fun _ => h⟩
    · exact ⟨(0, fun _ => 0), fun h => absurd h hk⟩
  have ha : ∀ k : Nat, ∃ cA : ClassId, 8 ≤ k → k < 14 → ArrOfT s cA (aty k) ∧ va_RA s cA (aty k) := by
    intro k
    by_cases h1 : 8 ≤ k
    · by_cases h2 : k < 14
      · rcases (show k = 8 ∨ k = 9 ∨ k = 13 ∨ (10 ≤ k ∧ k < 13) by omega) with rfl | rfl | rfl | ⟨h3, h4⟩
        · obtain ⟨cA, kA, comp, f1, f2, f3⟩ := Cond.arrayClass_spec (hTW _ (w_arr (t := .int) (k := 8) rfl))
          exact ⟨cA, fun _ _ => ⟨fun n z => ⟨fun k h => (by cases h), kA, f2, comp, f3⟩, f1⟩⟩
        · obtain ⟨cA, kA, comp, f1, f2, f3⟩ := Cond.arrayClass_spec (hTW _ (w_arr (t := .boolean) (k := 9) rfl))
          exact ⟨cA, fun _ _ => ⟨fun n z => ⟨fun k h => (by cases h), kA, f2, comp, f3⟩, f1⟩⟩
        · obtain ⟨cA, kA, comp, f1, f2, f3⟩ := Cond.arrayClass_spec (hTW _ (w_arr (t := .long) (k := 13) rfl))
          exact ⟨cA, fun _ _ => ⟨fun n z => ⟨fun k h => (by cases h), kA, f2, comp, f3⟩, f1⟩⟩
        · have ho := hT1 _ (of_decide_eq_true (List.all_eq_true.mp ao_all (k - 10) (List.mem_range.mpr (by omega))))
          obtain ⟨comp, cA, kA, f1, f2, f3, f4, f5⟩ := Cond.arrayOver_spec ho
          refine ⟨cA, fun _ _ => ?_⟩
          rw [aty_ref h3 h4]
          exact ⟨fun n z => ⟨fun k h => (by cases h), kA, f3, comp, f4⟩, kA, comp, f3, f4, f1, f5⟩
      · exact ⟨0, fun _ h => absurd h h2⟩
    · exact ⟨0, fun h => absurd h h1⟩
  obtain ⟨fK, hK⟩ := Classical.axiomOfChoice hk
  obtain ⟨cA, hA⟩ := Classical.axiomOfChoice ha
  refine ⟨fun k => (fK k).1, fun k => (fK k).2, cA, ?_, hA, ?_, ?_, ?_, ?_, ?_, ?_, rfl, ?_⟩
  · intro k q hq
    have hk8 : k < 8 := (List.getElem?_eq_some_iff.mp hq).1
    obtain ⟨q', hq', e1, e2, e3⟩ := nfs_cl hk8
    cases Option.some.inj (hq.symm.trans hq')
    rw [e1, e2, e3]; exact hK k hk8
  · intro w hw
    obtain ⟨h1, h2⟩ := List.mem_filter.mp hw
    refine va_Nw.of ?_ (hT1 w h1)
    unfold xword at h2
    split at h2 <;> first | rfl | cases h2
  · intro a b' h1 h2 h3 h4 h5
    have := List.all_eq_true.mp (List.all_eq_true.mp nc_all a (List.mem_range.mpr h2)) b' (List.mem_range.mpr h4)
    have e1 : (a == 0) = false := by simp; omega
    have e2 : (b' == 0) = false := by simp; omega
    have e3 : (a == b') = false := by simp; exact h5
    rw [e1, e2, e3] at this
    exact va_Nc.of (hfl _ (of_decide_eq_true this))
  · intro q hq
    have h1 := List.mem_map_of_mem (f := fun (q : Nat × String) => ("IntervalTree", q.1, q.2)) hq
    obtain ⟨w, hw, hx⟩ := mem_ex eqSr h1
    unfold exSr at hx
    split at hx
    · have hx := Option.some.inj hx
      simp only [Prod.mk.injEq] at hx
      obtain ⟨b1, b2, b3⟩ := hx
      subst b1; subst b2; subst b3
      have hex := hfl _ (of_decide_eq_true (List.all_eq_true.mp ex_all q hq))
      obtain ⟨a, c, cell, k, h2, -⟩ := Cond.exactly_spec hex
      exact ⟨a, vk_R.of (hT1 _ hw) h2⟩
    · cases hx
  · exact vx_Zqof (hT1 _ zq_all.2.2.1) (hT1 _ zq_all.2.2.2.2) (hfl _ zq_all.1) (fun a h1 => Nat.not_le.mpr h1)
  · exact vx_Zqof (hT1 _ zq_all.2.2.2.1) (hT1 _ zq_all.2.2.2.2) (hfl _ zq_all.2.1) (fun a h1 => Nat.not_le.mpr h1)
  · obtain ⟨scr, h1, h2, h3, -⟩ := hX
    exact ⟨scr, h1, h2, h3⟩
  · intro k hk
    exact va_AO.of (hT1 _ (of_decide_eq_true (List.all_eq_true.mp ao_all k (List.mem_range.mpr hk))))
/-- the abstract machine's first heap: nothing but the script -/
def hIni (sz b L : Nat) (xs : Nat → Int32) : AHp := ((sz, 0), (fun a => if a = b then 14 else 99), (fun _ => L), (fun _ k => xs k), (fun _ _ => none), (fun _ _ => 0))
theorem Rep_start {p : Program} {s : State} {m : MethodId} {meth : Method} {c : Code} {b L : Nat} {xs : Nat → Int32} (C0 : lw_At p s m meth c b L xs) (dC : Nat → ClassId) (dI : Nat → Nat → Nat) (cA : Nat → ClassId) : Rep (s.heap.size, s.heap, b, dC, dI, cA) (s.heap.size + 601024, 7293034) s.heap (hIni s.heap.size b L xs) := by
  obtain ⟨hx, hb, hr, hml, hown, hts, ⟨scr, h1, h2, h3, h4, h5⟩, hbl, hlocks, hgv, htb⟩ := C0
  refine ⟨rfl, Nat.le_refl _, fun _ _ => rfl, ?_, Nat.le_add_right _ _, Nat.zero_le _, fun a ha => ?_, fun a => ?_⟩
  · show ssum s.heap.size s.heap = 0
    unfold ssum
    rw [List.drop_eq_nil_of_le (by rw [Array.length_toList]; exact Nat.le_refl _)]; rfl
  · have ha : (if a = b then 14 else 99) < 15 := ha
    by_cases e : a = b
    · rw [e]; exact hbl
    · rw [if_neg e] at ha; omega
  · by_cases e : a = b
    · have q : hk (hIni s.heap.size b L xs) a = 14 := if_pos e
      refine ⟨fun z => ?_, fun _ z => ?_, fun _ => ⟨e, by rw [e]; exact hbl, scr, by rw [e]; exact h1, h4, fun k hk => h5 k hk⟩⟩
      · rw [q] at z; omega
      · rw [q] at z; omega
    · have q : hk (hIni s.heap.size b L xs) a = 99 := if_neg e
      refine ⟨fun z => ?_, fun _ z => ?_, fun z => ?_⟩
      · rw [q] at z; omega
      · rw [q] at z; omega
      · rw [q] at z; omega
theorem flags_off {l : Launch} (h : l.flags = flags0) : l.stackTraces = false := by
  unfold Launch.stackTraces
  rw [h]
  decide +kernel
/-- the law's body, out of a run of the abstract machine -/
theorem start_of {p : Program} {e : Env} {s : State} {m : MethodId} {below : List Frame} {meth : Method} {c : Code} (l : Launch) (hflags : l.flags = flags0) {b L : Nat} {xs : Nat → Int32} (C0 : lw_At p s m meth c b L xs)
    (hw : WP (s.heap.size + 601024, 7293034) 2000 300 0 (ent 300 [vr (some b)]) [] (hIni s.heap.size b L xs) (fun v _ => v = some (vi 1)) (fun _ _ => False)) : W p l e room_1 s m #[Value.ref b] below meth c s.heap [] 0 0 (lw_Z below #[Value.ref b] s) (entryFrame m ([Value.ref b] : List Value).toArray 7) := by
  obtain ⟨dC, dI, cA, hF⟩ := Fs_start C0
  have hR := Rep_start C0 dC dI cA
  obtain ⟨hx, hb, hr, hml, hown, hts, hX, hbl, hlocks, hgv, htb⟩ := C0
  have hTW : ∀ w ∈ TW, w.before #[Value.ref b] s = true := fun w hw => hts w (List.mem_filter.mp hw).1
  intro T hT Y
  have htab : c.exceptionTable.toList = tableOf (mhh 300) := by
    rw [htb]; rfl
  have C : Cx (s.heap.size, s.heap, b, dC, dI, cA) (s.heap.size + 601024, 7293034) 2000 300 p s m #[Value.ref b] meth c room_1 (hIni s.heap.size b L xs) :=
    ⟨hx, hb, hml, hr, hlocks, hown, hTW, hF, htab, fun q => (by cases q), hR, by show 601024 + s.heap.size = s.heap.size + 601024; omega, rfl, by decide, by decide⟩
  have hs := sound (G := (s.heap.size, s.heap, b, dC, dI, cA)) (flags_off hflags) hw p e s m #[Value.ref b] below meth c room_1 _ C s.heap [] 0 0 _ hR (fun z hz => by simp at hz) (Nat.zero_add _) (Nat.zero_add _) (lsOK_ent (j := 300) (as := [vr (some b)]) (show 1 ≤ mnL 300 by decide) (fun v hv => by rcases List.mem_cons.mp hv with rfl | hv; rfl; simp at hv))
  rw [lg_entry_eq]
  obtain ⟨t, a1, o, a2, a3, a4⟩ := hs T hT Y
  refine ⟨t, a1, o, a2, a3, ?_⟩
  rcases a4 with ⟨⟨v, h', b1, b2, -⟩, L', ⟨c1, c2, c3⟩, c4⟩ | ⟨q, -, E, ce, L', ⟨n, h', -, -, -, q, -⟩, -⟩
  · subst b2
    refine ⟨b1, c1, c2, c3.1, c3.2.1, c3.2.2.1, c3.2.2.2.1, c3.2.2.2.2.1, fun a cell ha => ?_⟩
    obtain ⟨c', f1, f2, f3, f4⟩ := c3.2.2.2.2.2 a cell ha
    refine ⟨c', f1, f2, f3, fun k _ => f4 k fun hm => ?_⟩
    have h1 : s.heap.size ≤ a := c4 _ hm
    have h2 := (Array.getElem?_eq_some_iff.mp ha).1
    omega
  · exact q.elim

set_option maxHeartbeats 4000000 in
theorem lw_walk (hW : ∀ (sz b L : Nat) (xs : Nat → Int32), L ≤ 2048 → b < sz → WP (sz + 601024, 7293034) 2000 300 0 (ent 300 [vr (some b)]) [] (hIni sz b L xs) (fun v _ => v = some (vi 1)) (fun _ _ => False)) (l : Launch) (hflags : l.flags = flags0) (b : Addr) (xs : List Int32) : MetFree l x (headSpec (Jvm.Cond.code x code maxLocals ret :: tables_1) room_1) (lw_P b xs) (fun _ _ _ _ _ => True) lw_Q := by
  refine MetFree.of_bodyS (code := code) (maxLocals := maxLocals) (ret := ret) (by decide) ?_ ?_
  · intro args s m h hn
    obtain ⟨meth, c, h1, h2, h3, h4, h5, h6, -, -⟩ := Cond.code_spec hn (atoms_spec (ws := Jvm.Cond.code x code maxLocals ret :: tables_1) h _ List.mem_cons_self)
    exact ⟨meth, c, h1, h2, h3, h4, h5, h6⟩
  · intro p e s m args below meth c s₁ B hml0 hP _
    obtain ⟨rfl, hx, hbd, hgv⟩ := hP
    obtain ⟨scr, harrAt, hlist, hof, hsmall⟩ := hx
    obtain ⟨hcb, hkn, -, -⟩ := State.arrayAt?_spec harrAt
    have hown : s.vm.findClass R_law = some m.cls := findClass_of_methodNamed B.named
    have hts0 : ∀ c ∈ (Jvm.Cond.code x code maxLocals ret :: tables_1), c.before #[Value.ref b] s = true := atoms_spec (ws := Jvm.Cond.code x code maxLocals ret :: tables_1) B.pre
    have hts : ∀ w ∈ lw_tbl, w.before #[Value.ref b] s = true := k2_hts_sels lw_privs (fun w hw => hts0 w (List.mem_cons_of_mem _ hw)) lw_privs_ok
    have hml : c.maxLocals = 7 := B.maxLocals_eq (hts0 _ List.mem_cons_self)
    have X₀ : Stand p l e room_1 s m #[Value.ref b] below meth c s₁ [] 0 0 := Stand.of_body B
    have hh0 : s₁.heap = s.heap := by rw [B.state]; rfl
    have htb : c.exceptionTable.toList = [] := by
      obtain ⟨meth9, c9, h1, h2, -, -, -, -, h7, -⟩ := Cond.code_spec B.named (hts0 _ List.mem_cons_self)
      cases Option.some.inj (h1.symm.trans B.method)
      cases Option.some.inj (h2.symm.trans (Stand.of_body B).code)
      rw [Array.isEmpty_iff.mp h7]
    have hsz : scr.slots.size = xs.length := by rw [← Array.length_toList, hlist, List.length_map]
    have hval : ∀ j : Nat, j < xs.length → scr.slots[j]? = some (.int (xs.getD j 0)) := fun j hj => by
      rw [← Array.getElem?_toList, hlist]
      simp [hj]
    have hbl : b < s.heap.size := (Array.getElem?_eq_some_iff.mp hcb).1
    have hX : va_X b xs.length (fun j => xs.getD j 0) s s.heap := ⟨scr, hcb, hof, hkn, hsz, hval⟩
    have K : W p l e room_1 s m #[Value.ref b] below meth c s₁.heap [] 0 0 (lw_Z below #[Value.ref b] s) (entryFrame m ([Value.ref b] : List Value).toArray 7) := by
      rw [hh0]
      exact start_of l hflags ⟨B.exec, B.bytes, B.returns, hml, hown, hts, hX, hbl, B.notSynchronized, hgv, htb⟩ (hW _ _ _ _ hbd hbl)
    obtain ⟨t, a1, o, b1, b2, b3⟩ := K s₁ rfl X₀
    exact ⟨t, o, a1, b1, b2, b3⟩
theorem lw_pre_spec {args : Array Value} {s : State} (h : (Jvm.Cond.and given_1 narrow_1).before args s = true) (hr : rest_1_c.before args s = true) : ∃ (b : Addr) (xs : List Int32), lw_P b xs args s := by
  have hs := flat_of_before _ h
  have hq := flat_of_before _ hr
  have hc : (Cond.count 1).before args s = true := hs _ (by decide +kernel)
  have harr : (Cond.arrayOf (.arg 0) .int).before args s = true := hs _ (by decide +kernel)
  have hle : (Cond.le (.length (.arg 0)) (.int 2048)).before args s = true := hs _ (by decide +kernel)
  have hlen : (Cond.isInt (.length (.arg 0))).before args s = true := hq _ (by decide +kernel)
  have hall : (Cond.all (.arg 0) (.isInt (.elem (.arg 0) (.index 0)))).before args s = true := hq _ (by decide +kernel)
  obtain ⟨b, xs, hb, hx⟩ := State.ints_of_pre rfl harr hlen hall
  have hsm : xs.length < 2 ^ 31 := hx.choose_spec.2.2.2
  have hev : (Term.length (.arg 0)).eval args s none [] s = some (.int xs.length.toInt32) := hx.length_eval hb
  have hv := Cond.le_ints hev (show (Term.int 2048).eval args s none [] s = some (.int 2048) from rfl)
  have hd : xs.length.toInt32 ≤ 2048 := by
    simpa [Cond.before, Cond.holds, hv] using hle
  have hN : xs.length ≤ 2048 := (Int32.ofNat_le_ofNat hsm (by decide)).mp (show Int32.ofNat xs.length ≤ Int32.ofNat 2048 from hd)
  exact ⟨b, xs, Cond.one_arg hc (show args[0]? = some (.ref b) from hb), hx, hN, h⟩
theorem lw_comes (hW : ∀ (sz b L : Nat) (xs : Nat → Int32), L ≤ 2048 → b < sz → WP (sz + 601024, 7293034) 2000 300 0 (ent 300 [vr (some b)]) [] (hIni sz b L xs) (fun v _ => v = some (vi 1)) (fun _ _ => False)) (l : Launch) (hflags : l.flags = flags0) : Comes l x (Jvm.Cond.code x code maxLocals ret :: tables_1) room_1 (fun tb e args s => Calls_1 tb e args s ∧ rest_1 tb e args s ∧ Pre_1 tb e args s)
    (fun _ _ args s o t => lw_Q args s o t) := by
  intro p e ha hc hk s m args below hf hfit hheap happ hpre
  obtain ⟨b, xs, hP⟩ := lw_pre_spec hpre.2.2 hpre.2.1
  obtain ⟨k, o, h1, h2, h3, hQ⟩ := lw_walk hW l hflags b xs p e ha hc hk s m args below hf ((Spec.applies_iff_loose hf).mp happ).1 hP trivial
  exact ⟨k, o, h1, h2, h3, hQ⟩
theorem lw_frame {s t : State} {o : Outcome} {args : Array Value} (h : Framed s o t [] 601024 7293034) :
    Framed s o t (fieldLocs frame_1_writes args s ++ arrayLocs frame_1_arrays args s ++ staticLocs frame_1_statics s) 601024 7293034 := h
theorem lw_limb (hW : ∀ (sz b L : Nat) (xs : Nat → Int32), L ≤ 2048 → b < sz → WP (sz + 601024, 7293034) 2000 300 0 (ent 300 [vr (some b)]) [] (hIni sz b L xs) (fun v _ => v = some (vi 1)) (fun _ _ => False)) (L : Cond) (hL : ∀ (args : Array Value) (s t : State), L.after args s (.returned (some (.int 1))) t = true) :
    ArmFor flags0 classFile x code maxLocals ret World_1 tables_1 room_1 Calls_1 rest_1 Pre_1
      (fun tb e a s o t => postC L tb e a s o t ∧ Framed s o t (fieldLocs frame_1_writes a s ++ arrayLocs frame_1_arrays a s ++ staticLocs frame_1_statics s) 601024 7293034) := by
  intro l hflags _ _ p e ha hc hk s m args below hf hfit hheap happ hpre
  obtain ⟨k, o, h1, h2, h3, rfl, hF⟩ := lw_comes hW l hflags p e ha hc hk s m args below hf hfit hheap happ hpre
  exact ⟨k, _, h1, h2, h3, hL args s _, lw_frame hF⟩
