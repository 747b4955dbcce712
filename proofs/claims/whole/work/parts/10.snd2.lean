/-! ===== soundness: fields and arrays ===== -/
def isRT : FieldType → Bool
  | .object _ => true
  | .array _ => true
  | _ => false
def chkTy (c k : Nat) : Bool := if ft c k = 0 then (if isZ c k = true then decide (tyT c k = .boolean) else decide (tyT c k = .int)) else (decide (ft c k = 1) && isRT (tyT c k))
theorem ty_all : ((List.range 8).all fun c => (List.range (nfs.getD c 0)).all fun k => chkTy c k) = true := by decide +kernel
theorem ty_at {c k : Nat} (hc : c < 8) (hkb : k < nfs.getD c 0) : chkTy c k = true := List.all_eq_true.mp (List.all_eq_true.mp ty_all c (List.mem_range.mpr hc)) k (List.mem_range.mpr hkb)
theorem nf_ref {t : FieldType} (h : isRT t = true) (o : Option Nat) : narrow t (va_rf o) = va_rf o ∧ fits t (va_rf o) = true := by
  cases t <;> first | (cases h; done) | (cases o <;> exact ⟨rfl, rfl⟩)
theorem b01_and {x : Int32} (h : b01 x) : x &&& 1 = x := by rcases h with rfl | rfl <;> rfl
theorem nf_bool {x : Int32} (h : b01 x) : narrow .boolean (.int x) = .int x ∧ fits .boolean (.int x) = true := by rcases h with rfl | rfl <;> exact ⟨rfl, rfl⟩
theorem decl_all : ((List.range 8).all fun c => (List.range (nfs.getD c 0)).all fun k => decide ((TT c k).1 = cname c)) = true := by decide +kernel
theorem TT_decl {c k : Nat} (hc : c < 8) (hkb : k < nfs.getD c 0) : (TT c k).1 = cname c := of_decide_eq_true (List.all_eq_true.mp (List.all_eq_true.mp decl_all c (List.mem_range.mpr hc)) k (List.mem_range.mpr hkb))
section SN
variable {G : GT} {lim : Nat × Nat} {l : Launch} {d j : Nat} {p : Program} {e : Env} {s : State} {m : MethodId} {args : Array Value} {below : List Frame} {meth : Method} {c : Code} {Rm : Room} {h0 : AHp}
variable {H : Heap} {locs : List Loc} {cells slots : Nat} {lsA : Array Slot} {ls : List (Option AV)} {st r : List AV} {h : AHp} {R : RT} {X : XT} {pc : Nat}
theorem Cx.fs (C : Cx G lim d j p s m args meth c Rm h0) : Fs G s := C.2.2.2.2.2.2.2.1
theorem Cx.ts (C : Cx G lim d j p s m args meth c Rm h0) : ∀ w ∈ TW, w.before args s = true := C.2.2.2.2.2.2.1
theorem Cx.own (C : Cx G lim d j p s m args meth c Rm h0) : s.vm.findClass (cname (mown j)) = some m.cls := C.2.2.2.2.2.1
theorem Cx.kn (C : Cx G lim d j p s m args meth c Rm h0) {k : Nat} (hc : k < 8) : u_Kn s (cname k) (TT k) (nfs.getD k 0) (G.2.2.2.1 k) (G.2.2.2.2.1 k) := by
  obtain ⟨q, hq, e1, e2, e3⟩ := nfs_cl hc
  have := C.fs.1 k q hq
  rwa [e1, e2, e3] at this
theorem Rep.cell (hR : Rep G lim H h) (a : Nat) : cellOK G H h a := hR.2.2.2.2.2.2.2 a
abbrev flk (j k a b : Nat) : Cond := Cond.fieldLink (cname (mown j)) k (TT a b).1 (TT a b).2.1 (TT a b).2.2.1
theorem sn_get (C : Cx G lim d j p s m args meth c Rm h0) (A : At0 G lim j h0 h H locs cells slots lsA ls) {b k a : Nat} (ha : hk h a < 8) (hkb : b < nfs.getD (hk h a) 0) (hlink : (flk j k (hk h a) b).before args s = true) (hd : decode (mby j) pc = .ok (.getfield k, 3))
    (hf : Snd G lim l d j (pc + 3) ls (fv h a b :: r) h R X) : TG G lim l j p e s m args below meth c Rm H locs cells slots R X pc lsA (.ref a :: r.map toV) := by
  obtain ⟨-, cell, q1, q2, q3, q4⟩ := (A.1.cell a).1 ha
  obtain ⟨hS, hfc, kC, hkC, hkind⟩ := C.kn ha
  obtain ⟨cf, kf, fi, f, hi, hsl⟩ := hS b hkb
  refine W.getf C.1 C.2.1 C.own hlink hi (u_facts hfc hkC (u_lays C.ts (ws_in ha) hkb) hi).1 q1 (by rw [q3]; exact fun h => by cases h) (v := toV (fv h a b)) ?_ rfl rfl hd (Snd.go hf C A)
  rw [hsl]; exact q4 b hkb
theorem setSlot_size (cell : Cell) (k : Nat) (v : Value) : (cell.setSlot k v).slots.size = cell.slots.size := by simp [Cell.setSlot]
/-- a field is written -/
theorem sn_putG (C : Cx G lim d j p s m args meth c Rm h0) (A : At0 G lim j h0 h H locs cells slots lsA ls) {b k a : Nat} {v : Value} (ha : hk h a < 8) (hkb : b < nfs.getD (hk h a) 0) (hlink : (flk j k (hk h a) b).before args s = true) (hd : decode (mby j) pc = .ok (.putfield k, 3))
    (hfin : (TT (hk h a) b).2.2.2 = true → iij j = true ∧ mown j = hk h a) (hn : narrow (tyT (hk h a) b) v = v) (hfit : fits (tyT (hk h a) b) v = true) (rest : List Value)
    (kk : ∀ H' : Heap, H'.size = H.size → (∀ q : Nat, q ≠ a → H'[q]? = H[q]?) → (H'[a]?).map (·.slots.size) = (H[a]?).map (·.slots.size) → t_OB a (G.2.2.2.1 (hk h a)) (nfs.getD (hk h a) 0) (G.2.2.2.2.1 (hk h a)) H' (updV (fun k => toV (fv h a k)) b v) →
      TG G lim l j p e s m args below meth c Rm H' (locs ++ [⟨a, G.2.2.2.2.1 (hk h a) b⟩]) cells slots R X (pc + 3) lsA rest) : TG G lim l j p e s m args below meth c Rm H locs cells slots R X pc lsA (v :: .ref a :: rest) := by
  obtain ⟨-, cell, q1, q2, q3, q4⟩ := (A.1.cell a).1 ha
  have hKn := C.kn ha
  have hap : ∀ x y, x < nfs.getD (hk h a) 0 → y < nfs.getD (hk h a) 0 → x ≠ y → (G.2.2.2.2.1 (hk h a)) x ≠ (G.2.2.2.2.1 (hk h a)) y := by
    intro x y hx hy hne
    obtain ⟨hS, -⟩ := hKn
    obtain ⟨_, _, _, fa, hia, ea⟩ := hS x hx
    obtain ⟨_, _, _, fb, hib, eb⟩ := hS y hy
    rw [← ea, ← eb]
    refine u_apart (u_lays C.ts (ws_in ha) hx) (u_lays C.ts (ws_in ha) hy) hia hib ?_
    rw [(State.fieldFound?_type hia (tyT_ok ha x hx)).1, (State.fieldFound?_type hib (tyT_ok ha y hy)).1]
    exact nmT ha x hx y hy hne
  obtain ⟨hS, hfc, kC, hkC, hkind⟩ := hKn
  obtain ⟨cf, kf, fi, f, hi, hsl⟩ := hS b hkb
  have hlay := C.ts _ (ws_in ha _ (u_in_lay hkb))
  unfold u_lay at hlay
  have hst := (u_facts hfc hkC (u_lays C.ts (ws_in ha) hkb) hi).1
  have hty := tyT_ok ha b hkb
  by_cases hf1 : (TT (hk h a) b).2.2.2 = true
  · rw [if_pos hf1] at hlay
    obtain ⟨hii, hown⟩ := hfin hf1
    have hcf : m.cls = cf := by
      obtain ⟨_, _, c', _, _, _, -, -, hf', -, -, -, hown2, -⟩ := Cond.laysFinal_spec hlay
      have e1 : c' = cf := by have := hi.symm.trans hf'; simp at this; exact this.1.symm
      have hdecl : (TT (hk h a) b).1 = cname (hk h a) := TT_decl ha hkb
      rw [hdecl] at hown2
      rw [← e1]
      have := C.own
      rw [hown] at this
      exact Option.some.inj (this.symm.trans hown2)
    have h6 := u_fits hfc hkC hkind (Or.inr hlay) hi hty hn hfit
    refine W.putFinK C.1 C.2.1 C.own hlink hi hst hcf (C.2.2.2.2.2.2.2.2.2.1 hii) (by rw [q2]; exact h6) q1 q3 (by rw [hsl]; exact k2_hasslot (q4 b hkb)) rfl rfl hd fun H' e1 e2 e3 => ?_
    rw [hsl] at e1 ⊢
    exact kk H' e2 e3 (by rw [e1, q1]; simp [setSlot_size]) ⟨_, e1, q2, q3, t_set q4 hap hkb v⟩
  · rw [if_neg hf1] at hlay
    have h6 := u_store hfc hkC hkind hlay hi hty hn hfit
    refine W.putK C.1 C.2.1 (f := f) ⟨C.own, hlink, ⟨_, _, _, hi⟩, hst⟩ (by rw [q2]; exact h6) q1 q3 (by rw [hsl]; exact k2_hasslot (q4 b hkb)) rfl rfl hd fun H' e1 e2 e3 => ?_
    rw [hsl] at e1 ⊢
    exact kk H' e2 e3 (by rw [e1, q1]; simp [setSlot_size]) ⟨_, e1, q2, q3, t_set q4 hap hkb v⟩
theorem At0.wr {h' : AHp} {H' : Heap} {a k : Nat} (A : At0 G lim j h0 h H locs cells slots lsA ls) (hR : Rep G lim H' h') (hb : G.1 ≤ a) (e1 : h'.1 = h.1) : At0 G lim j h0 h' H' (locs ++ [⟨a, k⟩]) cells slots lsA ls := by
  refine ⟨hR, fun z hz => ?_, ?_, ?_, A.2.2.2.2⟩
  · rcases List.mem_append.mp hz with q | q
    · exact A.2.1 z q
    · rw [List.mem_singleton.mp q]; exact hb
  · rw [show hsz h' = hsz h by unfold hsz; rw [e1]]; exact A.2.2.1
  · rw [show hsu h' = hsu h by unfold hsu; rw [e1]]; exact A.2.2.2.1
theorem fv_sI {a b : Nat} {x : Int32} (hb : ft (hk h a) b = 0) (k : Nat) : toV (fv (sI h a b x) a k) = updV (fun k => toV (fv h a k)) b (.int x) k := by
  have e1 : hk (sI h a b x) = hk h := rfl
  have e2 : hI (sI h a b x) a k = if k = b then x else hI h a k := by
    show up2 (hI h) a b x a k = _
    unfold up2
    by_cases e : k = b
    · rw [if_pos ⟨rfl, e⟩, if_pos e]
    · rw [if_neg (fun q => e q.2), if_neg e]
  have e3 : hP (sI h a b x) = hP h := rfl
  have e4 : hJ (sI h a b x) = hJ h := rfl
  unfold fv updV
  rw [e1, e2, e3, e4]
  by_cases e : k = b
  · subst e; rw [if_pos hb, if_pos rfl, if_pos rfl]; rfl
  · rw [if_neg e, if_neg e]
theorem fv_sP {a b : Nat} {x : Option Nat} (hb : ft (hk h a) b = 1) (k : Nat) : toV (fv (sP h a b x) a k) = updV (fun k => toV (fv h a k)) b (va_rf x) k := by
  have e1 : hk (sP h a b x) = hk h := rfl
  have e2 : hP (sP h a b x) a k = if k = b then x else hP h a k := by
    show up2 (hP h) a b x a k = _
    unfold up2
    by_cases e : k = b
    · rw [if_pos ⟨rfl, e⟩, if_pos e]
    · rw [if_neg (fun q => e q.2), if_neg e]
  have e3 : hI (sP h a b x) = hI h := rfl
  have e4 : hJ (sP h a b x) = hJ h := rfl
  unfold fv updV
  rw [e1, e2, e3, e4]
  by_cases e : k = b
  · subst e; rw [hb, if_neg (by decide), if_pos rfl, if_pos rfl, if_pos rfl]; rfl
  · rw [if_neg e, if_neg e]
theorem fv_sJ {a b : Nat} {x : Int64} (hb : ft (hk h a) b = 2) (k : Nat) : toV (fv (sJ h a b x) a k) = updV (fun k => toV (fv h a k)) b (.long x) k := by
  have e1 : hk (sJ h a b x) = hk h := rfl
  have e2 : hJ (sJ h a b x) a k = if k = b then x else hJ h a k := by
    show up2 (hJ h) a b x a k = _
    unfold up2
    by_cases e : k = b
    · rw [if_pos ⟨rfl, e⟩, if_pos e]
    · rw [if_neg (fun q => e q.2), if_neg e]
  have e3 : hI (sJ h a b x) = hI h := rfl
  have e4 : hP (sJ h a b x) = hP h := rfl
  unfold fv updV
  rw [e1, e2, e3, e4]
  by_cases e : k = b
  · subst e; rw [hb, if_neg (by decide), if_neg (by decide), if_pos rfl, if_pos rfl]; rfl
  · rw [if_neg e, if_neg e]
theorem up2_off {α : Type} (f : Nat → Nat → α) {a k b : Nat} {v : α} (hb : b ≠ a) : up2 f a k v b = f b := by
  funext j; unfold up2; rw [if_neg (fun q => hb q.1)]
theorem sn_putI (C : Cx G lim d j p s m args meth c Rm h0) (A : At0 G lim j h0 h H locs cells slots lsA ls) {b k a : Nat} {x : Int32} (ha : hk h a < 8) (hkb : b < nfs.getD (hk h a) 0) (hlink : (flk j k (hk h a) b).before args s = true) (hd : decode (mby j) pc = .ok (.putfield k, 3))
    (hfin : (TT (hk h a) b).2.2.2 = true → iij j = true ∧ mown j = hk h a) (hft : ft (hk h a) b = 0) (hz : isZ (hk h a) b = true → b01 x)
    (hf : Snd G lim l d j (pc + 3) ls r (sI h a b x) R X) : TG G lim l j p e s m args below meth c Rm H locs cells slots R X pc lsA (.int x :: .ref a :: r.map toV) := by
  have ht := ty_at ha hkb
  unfold chkTy at ht
  rw [if_pos hft] at ht
  have hnf : narrow (tyT (hk h a) b) (.int x) = .int x ∧ fits (tyT (hk h a) b) (.int x) = true := by
    by_cases hzz : isZ (hk h a) b = true
    · rw [if_pos hzz] at ht
      rw [of_decide_eq_true ht]; exact nf_bool (hz hzz)
    · rw [if_neg hzz] at ht
      rw [of_decide_eq_true ht]; exact ⟨rfl, rfl⟩
  refine sn_putG C A ha hkb hlink hd hfin hnf.1 hnf.2 _ fun H' e2 e3 e4 e5 => ?_
  have hb : G.1 ≤ a := ((A.1.cell a).1 ha).1
  refine Snd.go hf C (A.wr (A.1.upd e2 e3 e4 hb rfl rfl rfl (fun q hq => ⟨up2_off _ hq, rfl, rfl⟩) ⟨fun _ => ⟨hb, t_OB.to e5 (fun k _ => (fv_sI hft k).symm)⟩, fun q1 _ => ?_, fun q1 => ?_⟩) hb rfl)
  · have q1 : 8 ≤ hk h a := q1; omega
  · have q1 : hk h a = 14 := q1; omega
theorem sn_putP (C : Cx G lim d j p s m args meth c Rm h0) (A : At0 G lim j h0 h H locs cells slots lsA ls) {b k a : Nat} {x : Option Nat} (ha : hk h a < 8) (hkb : b < nfs.getD (hk h a) 0) (hlink : (flk j k (hk h a) b).before args s = true) (hd : decode (mby j) pc = .ok (.putfield k, 3))
    (hfin : (TT (hk h a) b).2.2.2 = true → iij j = true ∧ mown j = hk h a) (hft : ¬ ft (hk h a) b = 0)
    (hf : Snd G lim l d j (pc + 3) ls r (sP h a b x) R X) : TG G lim l j p e s m args below meth c Rm H locs cells slots R X pc lsA (va_rf x :: .ref a :: r.map toV) := by
  have ht := ty_at ha hkb
  unfold chkTy at ht
  rw [if_neg hft, Bool.and_eq_true] at ht
  have hf1 : ft (hk h a) b = 1 := of_decide_eq_true ht.1
  have hnf := nf_ref ht.2 x
  refine sn_putG C A ha hkb hlink hd hfin hnf.1 hnf.2 _ fun H' e2 e3 e4 e5 => ?_
  have hb : G.1 ≤ a := ((A.1.cell a).1 ha).1
  refine Snd.go hf C (A.wr (A.1.upd e2 e3 e4 hb rfl rfl rfl (fun q hq => ⟨rfl, up2_off _ hq, rfl⟩) ⟨fun _ => ⟨hb, t_OB.to e5 (fun k _ => (fv_sP hf1 k).symm)⟩, fun q1 _ => ?_, fun q1 => ?_⟩) hb rfl)
  · have q1 : 8 ≤ hk h a := q1; omega
  · have q1 : hk h a = 14 := q1; omega
end SN
