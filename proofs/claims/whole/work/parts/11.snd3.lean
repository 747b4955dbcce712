/-! ===== soundness: arrays, new cells, returns ===== -/
section SN
variable {G : GT} {lim : Nat × Nat} {l : Launch} {d j : Nat} {p : Program} {e : Env} {s : State} {m : MethodId} {args : Array Value} {below : List Frame} {meth : Method} {c : Code} {Rm : Room} {h0 : AHp}
variable {H : Heap} {locs : List Loc} {cells slots : Nat} {lsA : Array Slot} {ls : List (Option AV)} {st r : List AV} {h : AHp} {R : RT} {X : XT} {pc : Nat}
theorem ix_in {i : Int32} {n : Nat} (hi : ix i n) : ¬ (i < 0 ∨ n ≤ i.toNatClampNeg) := fun q => q.elim (fun q => absurd hi.1 (Int32.not_le.mpr q)) (fun q => absurd hi.2 (Nat.not_lt.mpr q))
theorem fv_num {a k : Nat} (hb : ft (hk h a) k = 0) : fv h a k = vi (hI h a k) := by unfold fv; rw [if_pos hb]
theorem fv_ref {a k : Nat} (hb : ft (hk h a) k = 1) : fv h a k = vr (hP h a k) := by unfold fv; rw [hb, if_neg (by decide), if_pos rfl]
theorem fv_lng {a k : Nat} (hb : ft (hk h a) k = 2) : fv h a k = vl (hJ h a k) := by unfold fv; rw [hb, if_neg (by decide), if_neg (by decide)]
theorem ft_arr {k b : Nat} (h1 : 10 ≤ k) (h2 : k < 13) : ft k b = 1 := by unfold ft; rw [if_neg (by omega), if_neg (by omega), if_pos h2]
theorem Cx.arr (C : Cx G lim d j p s m args meth c Rm h0) {k : Nat} (h1 : 8 ≤ k) (h2 : k < 14) : ArrOfT s (G.2.2.2.2.2 k) (aty k) ∧ va_RA s (G.2.2.2.2.2 k) (aty k) := C.fs.2.1 k h1 h2
theorem sn_ald (C : Cx G lim d j p s m args meth c Rm h0) (A : At0 G lim j h0 h H locs cells slots lsA ls) {a : Nat} {i : Int32} (ha : (hk h a = 8 ∧ decode (mby j) pc = .ok (.iaload, 1)) ∨ (hk h a = 9 ∧ decode (mby j) pc = .ok (.baload, 1)) ∨ (hk h a = 14 ∧ decode (mby j) pc = .ok (.iaload, 1))) (hi : ix i (hLen h a))
    (hf : Snd G lim l d j (pc + 1) ls (vi (hI h a i.toNatClampNeg) :: r) h R X) : TG G lim l j p e s m args below meth c Rm H locs cells slots R X pc lsA (.int i :: .ref a :: r.map toV) := by
  rcases ha with ⟨ha, hd⟩ | ⟨ha, hd⟩ | ⟨ha, hd⟩
  · have hc := ((A.1.cell a).2.1 (by omega) (by omega)).2
    have hT := (C.arr (k := 8) (by decide) (by decide)).1
    rw [ha] at hc
    refine W.iald (v := .int (hI h a i.toNatClampNeg)) C.1 C.2.1 hc (hT _ _) (fun q => by cases q) (by rw [arrV_size]; exact ix_in hi) ?_ rfl rfl hd (Snd.go hf C A)
    rw [arrV_read _ _ hi.2, fv_num (by rw [ha]; rfl)]; rfl
  · have hc := ((A.1.cell a).2.1 (by omega) (by omega)).2
    have hT := (C.arr (k := 9) (by decide) (by decide)).1
    rw [ha] at hc
    refine W.zald (v := .int (hI h a i.toNatClampNeg)) C.1 C.2.1 hc (hT _ _) (fun q => by cases q) (by rw [arrV_size]; exact ix_in hi) ?_ rfl rfl hd (Snd.go hf C A)
    rw [arrV_read _ _ hi.2, fv_num (by rw [ha]; rfl)]; rfl
  · obtain ⟨e1, e2, scr, e3, e4, e5⟩ := (A.1.cell a).2.2 ha
    obtain ⟨scr', e6, e7, e8⟩ := C.fs.2.2.2.2.2.2.2.1
    rw [← e1, e3] at e6
    cases e6
    have hc : H[a]? = some scr := by rw [A.1.2.2.1 a e2]; exact e3
    exact W.iald (v := .int (hI h a i.toNatClampNeg)) C.1 C.2.1 hc e7 e8 (by rw [e4]; exact ix_in hi) (e5 _ hi.2) rfl rfl hd (Snd.go hf C A)
theorem aty_ref {k : Nat} (h1 : 10 ≤ k) (h2 : k < 13) : aty k = .object (cname (k - 10)) := by
  rcases (show k = 10 ∨ k = 11 ∨ k = 12 by omega) with rfl | rfl | rfl <;> rfl
theorem sn_aald (C : Cx G lim d j p s m args meth c Rm h0) (A : At0 G lim j h0 h H locs cells slots lsA ls) {a : Nat} {i : Int32} (h1 : 10 ≤ hk h a) (h2 : hk h a < 13) (hd : decode (mby j) pc = .ok (.aaload, 1)) (hi : ix i (hLen h a))
    (hf : Snd G lim l d j (pc + 1) ls (vr (hP h a i.toNatClampNeg) :: r) h R X) : TG G lim l j p e s m args below meth c Rm H locs cells slots R X pc lsA (.int i :: .ref a :: r.map toV) := by
  have hc := ((A.1.cell a).2.1 (by omega) (by omega)).2
  have hT := (C.arr (k := hk h a) (by omega) (by omega)).1
  rw [aty_ref h1 h2] at hT
  refine W.aald (v := va_rf (hP h a i.toNatClampNeg)) C.1 C.2.1 hc (hT _ _) rfl (fun q => by cases q) (by rw [arrV_size]; exact ix_in hi) ?_ rfl rfl hd (Snd.go hf C A)
  rw [arrV_read _ _ hi.2, fv_ref (ft_arr h1 h2)]; rfl
theorem sn_lald (C : Cx G lim d j p s m args meth c Rm h0) (A : At0 G lim j h0 h H locs cells slots lsA ls) {a : Nat} {i : Int32} (ha : hk h a = 13) (hd : decode (mby j) pc = .ok (.laload, 1)) (hi : ix i (hLen h a))
    (hf : Snd G lim l d j (pc + 1) ls (vl (hJ h a i.toNatClampNeg) :: r) h R X) : TG G lim l j p e s m args below meth c Rm H locs cells slots R X pc lsA (.int i :: .ref a :: r.map toV) := by
  have hc := ((A.1.cell a).2.1 (by omega) (by omega)).2
  have hT := (C.arr (k := 13) (by decide) (by decide)).1
  rw [ha] at hc
  refine W.lald (v := .long (hJ h a i.toNatClampNeg)) C.1 C.2.1 hc (hT _ _) (fun q => by cases q) (by rw [arrV_size]; exact ix_in hi) ?_ rfl rfl hd (Snd.go hf C A)
  rw [arrV_read _ _ hi.2, fv_lng (by rw [ha]; rfl)]; rfl
/-- a place of an array is written -/
theorem Rep.arr {H' : Heap} {h' : AHp} {a k : Nat} {v : Value} (hR : Rep G lim H h) (h1 : 8 ≤ hk h a) (h2 : hk h a < 14) (e1 : H'[a]? = some ((arrV (G.2.2.2.2.2 (hk h a)) (hLen h a) (fun j => toV (fv h a j))).setSlot k v)) (e2 : H'.size = H.size) (e3 : ∀ q : Nat, q ≠ a → H'[q]? = H[q]?)
    (k1 : h'.1 = h.1) (k2 : hk h' = hk h) (k3 : hLen h' = hLen h) (k4 : ∀ b, b ≠ a → hI h' b = hI h b ∧ hP h' b = hP h b ∧ hJ h' b = hJ h b) (k5 : ∀ j, toV (fv h' a j) = updV (fun k => toV (fv h a k)) k v j) : Rep G lim H' h' := by
  have hc := (hR.cell a).2.1 h1 h2
  refine hR.upd e2 e3 (by rw [e1, hc.2, arrV_store]; simp [arrV_size]) hc.1 k1 k2 k3 k4 ⟨fun q => ?_, fun _ _ => ⟨hc.1, ?_⟩, fun q => ?_⟩
  · rw [k2] at q; omega
  · rw [e1, k2, k3, arrV_store]
    congr 2
    funext q; rw [k5]
  · rw [k2] at q; omega
theorem sn_iast (C : Cx G lim d j p s m args meth c Rm h0) (A : At0 G lim j h0 h H locs cells slots lsA ls) {a : Nat} {i x : Int32} (ha : (hk h a = 8 ∧ decode (mby j) pc = .ok (.iastore, 1)) ∨ (hk h a = 9 ∧ decode (mby j) pc = .ok (.bastore, 1) ∧ b01 x)) (hi : ix i (hLen h a))
    (hf : Snd G lim l d j (pc + 1) ls r (sI h a i.toNatClampNeg x) R X) : TG G lim l j p e s m args below meth c Rm H locs cells slots R X pc lsA (.int x :: .int i :: .ref a :: r.map toV) := by
  rcases ha with ⟨ha, hd⟩ | ⟨ha, hd, hz⟩
  · have hc := (A.1.cell a).2.1 (by omega) (by omega)
    have hT := (C.arr (k := hk h a) (by omega) (by omega)).1
    have hty : aty (hk h a) = .int := by rw [ha]; rfl
    rw [hty] at hT
    refine W.iast C.1 C.2.1 hc.2 (hT _ _) (fun q => by cases q) (by rw [arrV_size]; exact ix_in hi) rfl rfl hd fun H' e1 e2 e3 => ?_
    exact Snd.go hf C (A.wr (A.1.arr (by omega) (by omega) e1 e2 e3 rfl rfl rfl (fun q hq => ⟨up2_off _ hq, rfl, rfl⟩) (fv_sI (by rw [ha]; rfl))) hc.1 rfl)
  · have hc := (A.1.cell a).2.1 (by omega) (by omega)
    have hT := (C.arr (k := hk h a) (by omega) (by omega)).1
    have hty : aty (hk h a) = .boolean := by rw [ha]; rfl
    rw [hty] at hT
    refine W.zast C.1 C.2.1 hc.2 (hT _ _) (fun q => by cases q) (by rw [arrV_size]; exact ix_in hi) rfl rfl hd fun H' e1 e2 e3 => ?_
    rw [(nf_bool hz).1] at e1
    exact Snd.go hf C (A.wr (A.1.arr (by omega) (by omega) e1 e2 e3 rfl rfl rfl (fun q hq => ⟨up2_off _ hq, rfl, rfl⟩) (fv_sI (by rw [ha]; rfl))) hc.1 rfl)
theorem sn_last (C : Cx G lim d j p s m args meth c Rm h0) (A : At0 G lim j h0 h H locs cells slots lsA ls) {a : Nat} {i : Int32} {x : Int64} (ha : hk h a = 13) (hd : decode (mby j) pc = .ok (.lastore, 1)) (hi : ix i (hLen h a))
    (hf : Snd G lim l d j (pc + 1) ls r (sJ h a i.toNatClampNeg x) R X) : TG G lim l j p e s m args below meth c Rm H locs cells slots R X pc lsA (.long x :: .int i :: .ref a :: r.map toV) := by
  have hc := (A.1.cell a).2.1 (by omega) (by omega)
  have hT := (C.arr (k := hk h a) (by omega) (by omega)).1
  have hty : aty (hk h a) = .long := by rw [ha]; rfl
  rw [hty] at hT
  refine W.last C.1 C.2.1 hc.2 (hT _ _) (fun q => by cases q) (by rw [arrV_size]; exact ix_in hi) rfl rfl hd fun H' e1 e2 e3 => ?_
  exact Snd.go hf C (A.wr (A.1.arr (by omega) (by omega) e1 e2 e3 rfl rfl rfl (fun q hq => ⟨rfl, rfl, up2_off _ hq⟩) (fv_sJ (by rw [ha]; rfl))) hc.1 rfl)
theorem sn_aast (C : Cx G lim d j p s m args meth c Rm h0) (A : At0 G lim j h0 h H locs cells slots lsA ls) {a k : Nat} {i : Int32} {v : Option Nat} (hk3 : k < 3) (ha : hk h a = k + 10) (hd : decode (mby j) pc = .ok (.aastore, 1)) (hi : ix i (hLen h a)) (hv : ∀ b, v = some b → hk h b = k)
    (hf : Snd G lim l d j (pc + 1) ls r (sP h a i.toNatClampNeg v) R X) : TG G lim l j p e s m args below meth c Rm H locs cells slots R X pc lsA (va_rf v :: .int i :: .ref a :: r.map toV) := by
  have hc := (A.1.cell a).2.1 (by omega) (by omega)
  have hT := C.arr (k := hk h a) (by omega) (by omega)
  rw [aty_ref (by omega) (by omega), show hk h a - 10 = k by omega] at hT
  have hw : ∀ H' : Heap, H'[a]? = some ((arrV (G.2.2.2.2.2 (hk h a)) (hLen h a) (fun j => toV (fv h a j))).setSlot i.toNatClampNeg (va_rf v)) → H'.size = H.size → (∀ q : Nat, q ≠ a → H'[q]? = H[q]?) →
      TG G lim l j p e s m args below meth c Rm H' (locs ++ [⟨a, i.toNatClampNeg⟩]) cells slots R X (pc + 1) lsA (r.map toV) := fun H' e1 e2 e3 =>
    Snd.go hf C (A.wr (A.1.arr (by omega) (by omega) e1 e2 e3 rfl rfl rfl (fun q hq => ⟨rfl, up2_off _ hq, rfl⟩) (fv_sP (ft_arr (by omega) (by omega)))) hc.1 rfl)
  cases v with
  | none => exact va_WaastN C.1 C.2.1 hc.2 (hT.1 _ _) (fun q => by cases q) (by rw [arrV_size]; exact ix_in hi) rfl rfl hd hw
  | some b =>
    have hb := hv b rfl
    obtain ⟨-, cell, q1, q2, q3, -⟩ := (A.1.cell b).1 (by omega)
    obtain ⟨kA, comp, k1, k2, k3, -⟩ := hT.2
    have hKn := (C.kn (k := k) (by omega)).2
    rw [hb] at q2
    have hcomp : comp = G.2.2.2.1 k := Option.some.inj (k3.symm.trans hKn.1)
    subst hcomp
    obtain ⟨kC, hkC, -⟩ := hKn.2
    have hlt := hi.2
    refine W.aast C.1 C.2.1 hc.2 (fun q h => by cases h) (fun h => by cases h) k1 k2 rfl hkC ⟨Int32.not_lt.mpr hi.1, by rw [arrV_size]; exact hlt⟩ q1 (fun q h => by rw [q3] at h; cases h) (by rw [q2]; exact hkC) (by rw [q2]; exact va_assign hKn) rfl rfl hd hw
theorem sn_alen (C : Cx G lim d j p s m args meth c Rm h0) (A : At0 G lim j h0 h H locs cells slots lsA ls) {a : Nat} (h1 : 8 ≤ hk h a) (h2 : hk h a < 15) (hd : decode (mby j) pc = .ok (.arraylength, 1))
    (hf : Snd G lim l d j (pc + 1) ls (vi (nI (hLen h a)) :: r) h R X) : TG G lim l j p e s m args below meth c Rm H locs cells slots R X pc lsA (.ref a :: r.map toV) := by
  by_cases h3 : hk h a = 14
  · obtain ⟨e1, e2, scr, e3, e4, e5⟩ := (A.1.cell a).2.2 h3
    obtain ⟨scr', e6, e7, e8⟩ := C.fs.2.2.2.2.2.2.2.1
    rw [← e1, e3] at e6
    cases e6
    have hc : H[a]? = some scr := by rw [A.1.2.2.1 a e2]; exact e3
    exact W.alen (n := nI (hLen h a)) C.1 C.2.1 hc e7 (by rw [e4]; rfl) rfl rfl hd (Snd.go hf C A)
  · have hc := (A.1.cell a).2.1 (by omega) (by omega)
    have hT := (C.arr (k := hk h a) (by omega) (by omega)).1
    exact W.alen (n := nI (hLen h a)) C.1 C.2.1 hc.2 (hT _ _) (by rw [arrV_size]; rfl) rfl rfl hd (Snd.go hf C A)
theorem up1_off {α : Type} (f : Nat → α) {a b : Nat} {v : α} (hb : b ≠ a) : up1 f a v b = f b := if_neg hb
theorem up1_on {α : Type} (f : Nat → α) {a : Nat} {v : α} : up1 f a v a = v := if_pos rfl
theorem cl2_off {α : Type} (f : Nat → Nat → α) {a b : Nat} {v : α} (hb : b ≠ a) : cl2 f a v b = f b := by funext j; exact if_neg hb
theorem push_off {H : Heap} {cell : Cell} {a : Nat} (ha : a ≠ H.size) : (H.push cell)[a]? = H[a]? := by rw [Array.getElem?_push, if_neg ha]
/-- a new cell -/
theorem Rep.new {cell : Cell} {k n : Nat} (hR : Rep G lim H h) (hn : cell.slots.size = n) (l1 : hsz h + 1 ≤ lim.1) (l2 : hsu h + n ≤ lim.2) (hc : cellOK G (H.push cell) (nw h k n) (hsz h)) : Rep G lim (H.push cell) (nw h k n) := by
  obtain ⟨r1, r2, r3, r4, r5, r6, r7, r8⟩ := hR
  refine ⟨by rw [Array.size_push, r1]; rfl, Nat.le_succ_of_le r2, fun q hq => ?_, ?_, l1, l2, fun a ha => ?_, fun a => ?_⟩
  · rw [push_off (by omega)]; exact r3 q hq
  · rw [ssum_push (b := G.1) (H := H) (c := cell) (by omega) (Array.size_push ..) (fun q hq => push_off (by omega)) (by rw [Array.getElem?_push_size]), r4, hn]; rfl
  · by_cases e : a = hsz h
    · rw [e]; exact Nat.lt_succ_self _
    · have ha : up1 (hk h) (hsz h) k a < 15 := ha
      rw [up1_off _ e] at ha
      exact Nat.lt_succ_of_lt (r7 a ha)
  · by_cases e : a = hsz h
    · rw [e]; exact hc
    · exact (r8 a).keep (push_off (by rw [r1]; exact e)) (up1_off _ e) (up1_off _ e) (cl2_off _ e) (cl2_off _ e) (cl2_off _ e)
theorem At0.new {h' : AHp} {H' : Heap} {n : Nat} (A : At0 G lim j h0 h H locs cells slots lsA ls) (hR : Rep G lim H' h') (e1 : hsz h' = hsz h + 1) (e2 : hsu h' = hsu h + n) : At0 G lim j h0 h' H' locs (cells + 1) (slots + n) lsA ls :=
  ⟨hR, A.2.1, by have := A.2.2.1; omega, by have := A.2.2.2.1; omega, A.2.2.2.2⟩
theorem Cx.room (C : Cx G lim d j p s m args meth c Rm h0) : Rm.cells + hsz h0 = lim.1 ∧ Rm.slots + hsu h0 = lim.2 ∧ d + 8 ≤ Rm.frames ∧ 40 * d + 200 ≤ Rm.locals := C.2.2.2.2.2.2.2.2.2.2.2
theorem sn_new (C : Cx G lim d j p s m args meth c Rm h0) (A : At0 G lim j h0 h H locs cells slots lsA ls) {k idx : Nat} (hk8 : k < 8) (hlink : (Cond.classLink (cname (mown j)) idx (cname k)).before args s = true) (hins : (Cond.instantiable (cname k) (nfs.getD k 0)).before args s = true) (hini : (Cond.initialized (cname k)).before args s = true) (hd : decode (mby j) pc = .ok (.new idx, 3))
    (l1 : hsz h + 1 ≤ lim.1) (l2 : hsu h + nfs.getD k 0 ≤ lim.2) (hf : Snd G lim l d j (pc + 3) ls (vr (some (hsz h)) :: st) (nw h k (nfs.getD k 0)) R X) : TG G lim l j p e s m args below meth c Rm H locs cells slots R X pc lsA (st.map toV) := by
  have hr := C.room
  have a1 := A.2.2.1
  have a2 := A.2.2.2.1
  refine W.newc C.1 C.2.1 C.own hlink hins hini rfl hd (by omega) (by omega) fun cC kC f1 f2 f3 f4 => ?_
  have hKn := C.kn hk8
  have hcC : cC = G.2.2.2.1 k := Option.some.inj (f1.symm.trans hKn.2.1)
  subst hcC
  have hz : H.size = hsz h := A.1.1
  have hcell : (H.push (blank (G.2.2.2.1 k) kC))[hsz h]? = some (blank (G.2.2.2.1 k) kC) := by rw [← hz, Array.getElem?_push_size]
  have hb := u_born (tyT k) C.ts (ws_in hk8) hKn f2 hcell (tyT_ok hk8)
  have hkn : hk (nw h k (nfs.getD k 0)) (hsz h) = k := up1_on _
  have hR := A.1.new (cell := blank (G.2.2.2.1 k) kC) (k := k) (n := nfs.getD k 0) (by show (kC.instanceTypes.map defaultValue).size = _; rw [Array.size_map]; exact f4) l1 l2 (by
    refine ⟨fun _ => ⟨A.1.2.1, ?_⟩, fun q1 _ => ?_, fun q1 => ?_⟩
    · rw [hkn]
      refine t_OB.to hb fun b hb2 => ?_
      have ht := ty_at hk8 hb2
      unfold chkTy at ht
      unfold fv
      rw [hkn]
      have z1 : hI (nw h k (nfs.getD k 0)) (hsz h) b = 0 := if_pos rfl
      have z2 : hP (nw h k (nfs.getD k 0)) (hsz h) b = none := if_pos rfl
      by_cases e0 : ft k b = 0
      · rw [if_pos e0] at ht ⊢
        rw [z1]
        by_cases e1 : isZ k b = true
        · rw [if_pos e1] at ht; rw [of_decide_eq_true ht]; rfl
        · rw [if_neg e1] at ht; rw [of_decide_eq_true ht]; rfl
      · rw [if_neg e0, Bool.and_eq_true] at ht
        rw [if_neg e0, if_pos (of_decide_eq_true ht.1), z2]
        have := ht.2
        cases hh : tyT k b <;> rw [hh] at this <;> first | rfl | cases this
    · rw [hkn] at q1; omega
    · rw [hkn] at q1; omega)
  refine W.eq (g2 := F0 m (pc + 3) lsA (toV (vr (some (hsz h))) :: st.map toV)) (by rw [hz]; rfl) ?_
  exact Snd.go hf C (A.new hR rfl rfl)
theorem clamp_le {n : Int32} {b : Nat} (hb : b < 2 ^ 31) (h1 : 0 ≤ n) (h2 : n ≤ nI b) : n.toNatClampNeg ≤ b := by
  obtain ⟨q, hq, rfl⟩ := nI_of (Int32.not_lt.mpr h1)
  rw [nI_clamp hq]
  exact (nI_leI hq hb).mp h2
theorem sn_newarr (C : Cx G lim d j p s m args meth c Rm h0) (A : At0 G lim j h0 h H locs cells slots lsA ls) {k nx : Nat} {n : Int32} (hk1 : 8 ≤ k) (hk2 : k < 14)
    (hd : (∃ t, atk k = some t ∧ nx = pc + 2 ∧ decode (mby j) pc = .ok (.newarray t, 2) ∧ (Cond.arrayClass (newarray.typeOf t)).before args s = true) ∨ (10 ≤ k ∧ k < 13 ∧ nx = pc + 3 ∧ ∃ idx, decode (mby j) pc = .ok (.anewarray idx, 3) ∧ (Cond.classLink (cname (mown j)) idx (cname (k - 10))).before args s = true))
    (n1 : 0 ≤ n) (n2 : n ≤ 100000) (l1 : hsz h + 1 ≤ lim.1) (l2 : hsu h + n.toNatClampNeg ≤ lim.2) (hf : Snd G lim l d j nx ls (vr (some (hsz h)) :: r) (nw h k n.toNatClampNeg) R X) : TG G lim l j p e s m args below meth c Rm H locs cells slots R X pc lsA (.int n :: r.map toV) := by
  have hr := C.room
  have a1 := A.2.2.1
  have a2 := A.2.2.2.1
  have hz : H.size = hsz h := A.1.1
  have hn : n.toNatClampNeg ≤ 100000 := clamp_le (b := 100000) (by decide) n1 n2
  have hkn : hk (nw h k n.toNatClampNeg) (hsz h) = k := up1_on _
  have hln : hLen (nw h k n.toNatClampNeg) (hsz h) = n.toNatClampNeg := up1_on _
  have hT := C.arr hk1 hk2
  have hgo : ∀ v : Value, (∀ b, toV (fv (nw h k n.toNatClampNeg) (hsz h) b) = v) → TG G lim l j p e s m args below meth c Rm (H.push { cls := G.2.2.2.2.2 k, slots := Array.replicate n.toNatClampNeg v, vm := .none }) locs (cells + 1) (slots + n.toNatClampNeg) R X nx lsA (.ref H.size :: r.map toV) := by
    intro v hv
    rw [arrV_new, hz]
    refine Snd.go hf C (A.new (A.1.new (by rw [arrV_size]) l1 l2 ⟨fun q => ?_, fun _ _ => ⟨A.1.2.1, ?_⟩, fun q => ?_⟩) rfl rfl)
    · rw [hkn] at q; omega
    · rw [hkn, hln, ← hz, Array.getElem?_push_size, hz]
      congr 2
      funext b; rw [hv]
    · rw [hkn] at q; omega
  have z1 : ∀ b, hI (nw h k n.toNatClampNeg) (hsz h) b = 0 := fun b => if_pos rfl
  have z2 : ∀ b, hP (nw h k n.toNatClampNeg) (hsz h) b = none := fun b => if_pos rfl
  have z3 : ∀ b, hJ (nw h k n.toNatClampNeg) (hsz h) b = 0 := fun b => if_pos rfl
  rcases hd with ⟨t, ht, rfl, hd, hcl⟩ | ⟨k3, k4, rfl, idx, hd, hcl⟩
  · refine W.newa C.1 C.2.1 hcl rfl hd rfl (Int32.not_lt.mpr n1) ?_ (by omega) (by omega) fun cA kA comp f1 f2 f3 => ?_
    · have : componentBytes (newarray.typeOf t) ≤ 8 := by cases t <;> decide
      calc n.toNatClampNeg * componentBytes (newarray.typeOf t) ≤ 100000 * 8 := Nat.mul_le_mul hn this
        _ ≤ 536870912 := by decide
    · rcases (show k = 8 ∨ k = 9 ∨ k = 13 ∨ (k = 10 ∨ k = 11 ∨ k = 12) by omega) with rfl | rfl | rfl | (rfl | rfl | rfl)
      · cases ht
        cases Option.some.inj (f1.symm.trans hT.2)
        exact hgo _ (fun b => by rw [fv_num (by rw [hkn]; rfl), z1]; rfl)
      · cases ht
        cases Option.some.inj (f1.symm.trans hT.2)
        exact hgo _ (fun b => by rw [fv_num (by rw [hkn]; rfl), z1]; rfl)
      · cases ht
        cases Option.some.inj (f1.symm.trans hT.2)
        exact hgo _ (fun b => by rw [fv_lng (by rw [hkn]; rfl), z3]; rfl)
      · cases ht
      · cases ht
      · cases ht
  · refine W.anew C.1 C.2.1 C.own hcl (va_AO.use (C.fs.2.2.2.2.2.2.2.2.2 (k - 10) (by omega))) rfl hd rfl (Int32.not_lt.mpr n1) (by omega) (by omega) (by omega) fun cA kA comp f1 f2 f3 f4 => ?_
    rw [aty_ref k3 k4] at hT
    obtain ⟨kA', comp', g1, g2, g3, g4⟩ := hT.2
    cases Option.some.inj (f1.symm.trans g4)
    exact hgo _ (fun b => by rw [fv_ref (by rw [hkn]; exact ft_arr k3 k4), z2]; rfl)
end SN
