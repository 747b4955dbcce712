/-! ===== the heap as the abstract machine sees it ===== -/
def aty (k : Nat) : FieldType := match k with
  | 8 => .int
  | 9 => .boolean
  | 10 => .object "IntervalTree$Cursor"
  | 11 => .object "IntervalTree$Filter"
  | 12 => .object "IntervalTree$Node"
  | _ => .long
def exN (n : Nat) : String := match n with
  | 1 => "java/lang/IllegalArgumentException"
  | 2 => "java/lang/IllegalStateException"
  | 3 => "java/util/NoSuchElementException"
  | _ => "java/lang/IndexOutOfBoundsException"
/-- what stands fast: the first heap's size, the first heap, the script's cell, the numbers of the classes, of their fields, of the array classes -/
abbrev GT : Type := Nat × Heap × Nat × (Nat → ClassId) × (Nat → Nat → Nat) × (Nat → ClassId)
def TW : List Cond := lw_tbl.filter goodWord
def xword : Cond → Bool
  | .castable .. => true
  | .declares _ => true
  | .methodLinkNest .. => true
  | _ => false
def XW : List Cond := tables_1.filter xword
def Fs (G : GT) (U : State) : Prop :=
  (∀ (c : Nat) (q : vw_C), vwCl[c]? = some q → u_Kn U q.1 q.2.1 q.2.2 (G.2.2.2.1 c) (G.2.2.2.2.1 c)) ∧
  (∀ k : Nat, 8 ≤ k → k < 14 → ArrOfT U (G.2.2.2.2.2 k) (aty k) ∧ va_RA U (G.2.2.2.2.2 k) (aty k)) ∧
  (∀ w ∈ XW, va_Nw w U) ∧
  (∀ a b : Nat, 1 ≤ a → a < 5 → 1 ≤ b → b < 5 → a ≠ b → va_Nc (exN a) (exN b) U) ∧
  (∀ q ∈ SLn, ∃ a, vk_R "IntervalTree" q.1 q.2 a U) ∧
  vx_Zq Bundle.tN "UNASSIGNED_STACK" Bundle.steD (fun q => G.1 ≤ q) U G.2.1 ∧ vx_Zq Bundle.tN "SUPPRESSED_SENTINEL" Bundle.listD (fun q => G.1 ≤ q) U G.2.1 ∧
  (∃ scr : Cell, G.2.1[G.2.2.1]? = some scr ∧ U.isArrayOf scr .int ∧ scr.vm ≠ .unknown) ∧ G.2.1.size = G.1 ∧ (∀ c, c < 3 → va_AO (cname c) U)
theorem Nw_declares {y : MethodName} {u U : State} (hvm : u.vm.Alike U.vm) (h : va_Nw (.declares y) u) : va_Nw (.declares y) U := by
  have h1 : (Cond.declares y).before #[] (u.setVm U.vm) = true := by
    rw [Cond.declares_setVm hvm]
    exact h
  have e := Cond.onTables_vm (A := #[]) (A' := #[]) (U := u) (U' := U) U.vm (Cond.declares y) rfl
  have hU : U.setVm U.vm = U := rfl
  rw [hU] at e
  unfold va_Nw
  rw [← e]
  exact h1
theorem Fs.warm {G : GT} {s U : State} (hW : s.WarmedH U.vm) (h : Fs G s) : Fs G U := by
  obtain ⟨h1, h2, h3, h4, h5, h6, h7, ⟨scr, h8, h9, h10⟩, h11, h12⟩ := h
  refine ⟨fun c q hq => u_Kn_moved hW.alike (h1 c q hq), fun k a b => ⟨arrOfT_moved hW.alike (h2 k a b).1, va_RA.moved hW.alike (h2 k a b).2⟩, fun w hw => ?_, fun a b p q r t u => va_Nc.moved hW.alike (h4 a b p q r t u), fun q hq => ?_, vx_Zq.moved hW.alike h6, vx_Zq.moved hW.alike h7, ⟨scr, h8, State.isArrayOf_alike hW.alike h9, h10⟩, h11, fun c hc => va_AO.moved hW.alike (h12 c hc)⟩
  · have hx : xword w = true := (List.mem_filter.mp hw).2
    have h0 := h3 w hw
    unfold xword at hx
    split at hx
    · exact va_Nw.warmC hW h0
    · exact Nw_declares hW.alike h0
    · exact va_Nw.warmM hW h0
    · cases hx
  · obtain ⟨a, ha⟩ := h5 q hq
    exact ⟨a, vk_R.warm hW ha⟩
def ssum (b : Nat) (H : Heap) : Nat := ((H.toList.drop b).map (·.slots.size)).sum
def fv (h : AHp) (a k : Nat) : AV := if ft (hk h a) k = 0 then vi (hI h a k) else if ft (hk h a) k = 1 then vr (hP h a k) else vl (hJ h a k)
def cellOK (G : GT) (H : Heap) (h : AHp) (a : Nat) : Prop :=
  (hk h a < 8 → G.1 ≤ a ∧ t_OB a (G.2.2.2.1 (hk h a)) (nfs.getD (hk h a) 0) (G.2.2.2.2.1 (hk h a)) H (fun k => toV (fv h a k))) ∧
  (8 ≤ hk h a → hk h a < 14 → G.1 ≤ a ∧ H[a]? = some (arrV (G.2.2.2.2.2 (hk h a)) (hLen h a) (fun j => toV (fv h a j)))) ∧
  (hk h a = 14 → a = G.2.2.1 ∧ a < G.1 ∧ ∃ scr : Cell, G.2.1[a]? = some scr ∧ scr.slots.size = hLen h a ∧ ∀ j : Nat, j < hLen h a → scr.slots[j]? = some (.int (hI h a j)))
def Rep (G : GT) (lim : Nat × Nat) (H : Heap) (h : AHp) : Prop :=
  H.size = hsz h ∧ G.1 ≤ hsz h ∧ (∀ q : Nat, q < G.1 → H[q]? = G.2.1[q]?) ∧ ssum G.1 H = hsu h ∧ hsz h ≤ lim.1 ∧ hsu h ≤ lim.2 ∧ (∀ a, hk h a < 15 → a < hsz h) ∧ ∀ a, cellOK G H h a
theorem ssum_same {b : Nat} {H H' : Heap} (h1 : H'.size = H.size) (h2 : ∀ q : Nat, (H'[q]?).map (·.slots.size) = (H[q]?).map (·.slots.size)) : ssum b H' = ssum b H := by
  unfold ssum
  rw [List.map_drop, List.map_drop]
  have : H'.toList.map (·.slots.size) = H.toList.map (·.slots.size) := by
    apply List.ext_getElem?
    intro i
    rw [List.getElem?_map, List.getElem?_map, Array.getElem?_toList, Array.getElem?_toList]
    exact h2 i
  rw [this]
theorem ssum_push {b : Nat} {H H' : Heap} {c : Cell} (hb : b ≤ H.size) (h1 : H'.size = H.size + 1) (h2 : ∀ q : Nat, q < H.size → H'[q]? = H[q]?) (h3 : H'[H.size]? = some c) : ssum b H' = ssum b H + c.slots.size := by
  have e : H' = H.push c := by
    apply Array.ext_getElem?
    intro i
    rw [Array.getElem?_push]
    by_cases hi : i = H.size
    · rw [if_pos hi, hi, h3]
    · rw [if_neg hi]
      by_cases hl : i < H.size
      · exact h2 i hl
      · have a1 : H'[i]? = none := by rw [Array.getElem?_eq_none_iff]; omega
        have a2 : H[i]? = none := by rw [Array.getElem?_eq_none_iff]; omega
        rw [a1, a2]
  rw [e]
  unfold ssum
  rw [Array.toList_push, List.drop_append_of_le_length (by rw [Array.length_toList]; exact hb), List.map_append, List.sum_append]
  simp
theorem ssum_grow {b k : Nat} {H : Heap} (hb : b ≤ k) (hk : k ≤ H.size) : ssum b H = ((H.toList.drop b).take (k - b) |>.map (·.slots.size)).sum + ssum k H := by
  unfold ssum
  have e : H.toList.drop k = (H.toList.drop b).drop (k - b) := by
    rw [List.drop_drop]; congr 1; omega
  rw [e]
  conv => lhs; rw [← List.take_append_drop (k - b) (H.toList.drop b)]
  rw [List.map_append, List.sum_append]
/-- what was there at s has its sizes still: then the new cells' slots are the difference -/
theorem ssum_split {b : Nat} {S H : Heap} (hb : b ≤ S.size) (hs : S.size ≤ H.size) (h2 : ∀ q : Nat, q < S.size → (H[q]?).map (·.slots.size) = (S[q]?).map (·.slots.size)) : ssum b H = ssum b S + ssum S.size H := by
  rw [ssum_grow hb hs]
  congr 1
  unfold ssum
  have e : (H.toList.take S.size).map (·.slots.size) = S.toList.map (·.slots.size) := by
    apply List.ext_getElem?
    intro i
    rw [List.getElem?_map, List.getElem?_map]
    by_cases hi : i < S.size
    · rw [List.getElem?_take_of_lt hi]
      have := h2 i hi
      rw [← Array.getElem?_toList, ← Array.getElem?_toList] at this
      exact this
    · rw [List.getElem?_eq_none (l := H.toList.take S.size) (by rw [List.length_take]; omega), List.getElem?_eq_none (l := S.toList) (by rw [Array.length_toList]; omega)]
  have e2 : (H.toList.drop b).take (S.size - b) = (H.toList.take S.size).drop b := by
    rw [List.drop_take]
  rw [e2, List.map_drop, e, List.map_drop]
theorem cellOK.keep {G : GT} {H H' : Heap} {h h' : AHp} {a : Nat} (ho : cellOK G H h a) (hc : H'[a]? = H[a]?) (hkk : hk h' a = hk h a) (hl : hLen h' a = hLen h a) (hi : hI h' a = hI h a) (hp : hP h' a = hP h a) (hj : hJ h' a = hJ h a) : cellOK G H' h' a := by
  have hf : ∀ k, fv h' a k = fv h a k := by
    intro k; unfold fv; rw [hkk, hi, hp, hj]
  obtain ⟨o1, o2, o3⟩ := ho
  refine ⟨?_, ?_, ?_⟩
  · rw [hkk]; intro hlt
    exact ⟨(o1 hlt).1, t_OB.to (t_OB.kept (o1 hlt).2 hc) (fun k _ => by rw [hf])⟩
  · rw [hkk, hl]; intro h1 h2
    refine ⟨(o2 h1 h2).1, ?_⟩
    rw [hc, (o2 h1 h2).2]
    congr 2
    funext j; rw [hf]
  · rw [hkk, hl, hi]; exact o3
/-- one cell of ours is written -/
theorem Rep.upd {G : GT} {lim : Nat × Nat} {H H' : Heap} {h h' : AHp} {a : Nat} (hR : Rep G lim H h) (e2 : H'.size = H.size) (e3 : ∀ q : Nat, q ≠ a → H'[q]? = H[q]?) (hsl : (H'[a]?).map (·.slots.size) = (H[a]?).map (·.slots.size)) (hb : G.1 ≤ a)
    (k1 : h'.1 = h.1) (k2 : hk h' = hk h) (k3 : hLen h' = hLen h) (k4 : ∀ b, b ≠ a → hI h' b = hI h b ∧ hP h' b = hP h b ∧ hJ h' b = hJ h b) (hc : cellOK G H' h' a) : Rep G lim H' h' := by
  obtain ⟨r1, r2, r3, r4, r5, r6, r7, r8⟩ := hR
  have z1 : hsz h' = hsz h := by unfold hsz; rw [k1]
  have z2 : hsu h' = hsu h := by unfold hsu; rw [k1]
  refine ⟨by rw [e2, r1, z1], by rw [z1]; exact r2, fun q hq => ?_, ?_, by rw [z1]; exact r5, by rw [z2]; exact r6, fun b hb2 => by rw [z1]; exact r7 b (by rw [← k2]; exact hb2), fun b => ?_⟩
  · rw [e3 q (by omega)]; exact r3 q hq
  · rw [z2, ← r4]
    refine ssum_same e2 fun q => ?_
    by_cases hq : q = a
    · rw [hq]; exact hsl
    · rw [e3 q hq]
  · by_cases hq : b = a
    · rw [hq]; exact hc
    · exact (r8 b).keep (e3 b hq) (by rw [k2]) (by rw [k3]) (k4 b hq).1 (k4 b hq).2.1 (k4 b hq).2.2
theorem nfs_cl {c : Nat} (hc : c < 8) : ∃ q : vw_C, vwCl[c]? = some q ∧ q.2.1 = TT c ∧ q.2.2 = nfs.getD c 0 ∧ q.1 = cname c := by
  match c, hc with
  | 0, _ => exact ⟨_, rfl, rfl, rfl, rfl⟩
  | 1, _ => exact ⟨_, rfl, rfl, rfl, rfl⟩
  | 2, _ => exact ⟨_, rfl, rfl, rfl, rfl⟩
  | 3, _ => exact ⟨_, rfl, rfl, rfl, rfl⟩
  | 4, _ => exact ⟨_, rfl, rfl, rfl, rfl⟩
  | 5, _ => exact ⟨_, rfl, rfl, rfl, rfl⟩
  | 6, _ => exact ⟨_, rfl, rfl, rfl, rfl⟩
  | 7, _ => exact ⟨_, rfl, rfl, rfl, rfl⟩
theorem tyT_ok {c : Nat} (hc : c < 8) : ∀ k, k < nfs.getD c 0 → parseFieldDescriptor (TT c k).2.2.1 = some (tyT c k) := by
  match c, hc with
  | 0, _ => exact tyX0_ok
  | 1, _ => exact tyX1_ok
  | 2, _ => exact tyX2_ok
  | 3, _ => exact tyX3_ok
  | 4, _ => exact tyX4_ok
  | 5, _ => exact tyX5_ok
  | 6, _ => exact tyX6_ok
  | 7, _ => exact tyX7_ok
theorem nmT {c : Nat} (hc : c < 8) : ∀ a, a < nfs.getD c 0 → ∀ b, b < nfs.getD c 0 → a ≠ b → (TT c a).2.1 ≠ (TT c b).2.1 := by
  match c, hc with
  | 0, _ => exact nmX0
  | 1, _ => exact nmX1
  | 2, _ => exact nmX2
  | 3, _ => exact nmX3
  | 4, _ => exact nmX4
  | 5, _ => exact nmX5
  | 6, _ => exact nmX6
  | 7, _ => exact nmX7
theorem cn2_own {c : Nat} (hc : c < 9) : cn2 c = cname c := by
  match c, hc with
  | 0, _ => rfl
  | 1, _ => rfl
  | 2, _ => rfl
  | 3, _ => rfl
  | 4, _ => rfl
  | 5, _ => rfl
  | 6, _ => rfl
  | 7, _ => rfl
  | 8, _ => rfl
theorem lay_all : ((List.range 8).all fun c => (List.range (nfs.getD c 0)).all fun k => decide (((TT c k).2.2.2, c, c, k) ∈ layX)) = true := by decide +kernel
theorem lay_in {c : Nat} (hc : c < 8) {k : Nat} (hk : k < nfs.getD c 0) : ((TT c k).2.2.2, c, c, k) ∈ layX :=
  of_decide_eq_true (List.all_eq_true.mp (List.all_eq_true.mp lay_all c (List.mem_range.mpr hc)) k (List.mem_range.mpr hk))
theorem mem_ex {α : Type} {f : Cond → Option α} {x : α} {l : List α} (he : tables_1.filterMap f = l) (hx : x ∈ l) : ∃ w ∈ tables_1, f w = some x := by
  rw [← he] at hx
  obtain ⟨w, h1, h2⟩ := List.mem_filterMap.mp hx
  exact ⟨w, h1, h2⟩
theorem TW_of {w : Cond} (h : w ∈ tables_1) (hg : goodWord w = true) : w ∈ TW := List.mem_filter.mpr ⟨List.mem_append_right _ h, hg⟩
theorem ws_in {c : Nat} (hc : c < 8) : ∀ w ∈ u_ws (cname c) (TT c) (nfs.getD c 0), w ∈ TW := by
  intro w hw
  obtain ⟨k, hk, rfl⟩ := List.mem_map.mp hw
  have hk := List.mem_range.mp hk
  have h0 := lay_in hc hk
  have h1 := List.mem_map_of_mem (f := fun (q : Bool × Nat × Nat × Nat) => (q.1, cn2 q.2.1, (fN q.2.2.1 q.2.2.2).1, (fN q.2.2.1 q.2.2.2).2.1, (fN q.2.2.1 q.2.2.2).2.2)) h0
  obtain ⟨w, hw, hx⟩ := mem_ex eqLay h1
  have e1 : fN c k = ((TT c k).1, (TT c k).2.1, (TT c k).2.2.1) := if_pos hc
  have e2 : cn2 c = cname c := cn2_own (by omega)
  simp only [e1, e2] at hx
  unfold exLay at hx
  unfold u_lay
  split at hx
  · have hx := Option.some.inj hx
    simp only [Prod.mk.injEq] at hx
    obtain ⟨a1, a2, a3, a4, a5⟩ := hx
    rw [if_neg (by rw [← a1]; decide), ← a2, ← a3, ← a4, ← a5]
    exact TW_of hw rfl
  · have hx := Option.some.inj hx
    simp only [Prod.mk.injEq] at hx
    obtain ⟨a1, a2, a3, a4, a5⟩ := hx
    rw [if_pos (by rw [← a1]), ← a2, ← a3, ← a4, ← a5]
    exact TW_of hw rfl
  · cases hx
