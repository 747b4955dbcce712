/-! ===== soundness: returns, switches, throws, the JDK's own ===== -/
section SN
variable {G : GT} {lim : Nat × Nat} {l : Launch} {d j : Nat} {p : Program} {e : Env} {s : State} {m : MethodId} {args : Array Value} {below : List Frame} {meth : Method} {c : Code} {Rm : Room} {h0 : AHp}
variable {H : Heap} {locs : List Loc} {cells slots : Nat} {lsA : Array Slot} {ls : List (Option AV)} {st r : List AV} {h : AHp} {R : RT} {X : XT} {pc : Nat}
theorem At0.le (A : At0 G lim j h0 h H locs cells slots lsA ls) (C : Cx G lim d j p s m args meth c Rm h0) : cells ≤ Rm.cells ∧ slots ≤ Rm.slots := by
  have hr := C.room
  have a1 := A.2.2.1
  have a2 := A.2.2.2.1
  have a3 := A.1.2.2.2.2.1
  have a4 := A.1.2.2.2.2.2.1
  omega
theorem sn_iret (C : Cx G lim d j p s m args meth c Rm h0) (A : At0 G lim j h0 h H locs cells slots lsA ls) {x : Int32} (hr : mrt j = some .int) (hd : decode (mby j) pc = .ok (.ireturn, 1)) (hf : R (some (vi x)) h) : TG G lim l j p e s m args below meth c Rm H locs cells slots R X pc lsA [.int x] := by
  refine vx_ret (W.widen (k := Rm.cells) (n := Rm.slots) (A.le C).1 (A.le C).2 ?_)
  exact W.iret C.1 C.2.1 (C.2.2.2.1.trans hr) (fun t ht _ => ⟨some (vi x), h, rfl, hf, by rw [ht]; exact A.1, fun q => by rw [hr] at q; cases q⟩) A.2.1 hd C.2.2.2.2.1
theorem sn_zret (C : Cx G lim d j p s m args meth c Rm h0) (A : At0 G lim j h0 h H locs cells slots lsA ls) {x : Int32} (hx : b01 x) (hr : mrt j = some .boolean) (hd : decode (mby j) pc = .ok (.ireturn, 1)) (hf : R (some (vi x)) h) : TG G lim l j p e s m args below meth c Rm H locs cells slots R X pc lsA [.int x] := by
  refine vx_ret (W.widen (k := Rm.cells) (n := Rm.slots) (A.le C).1 (A.le C).2 ?_)
  exact W.zret C.1 C.2.1 (C.2.2.2.1.trans hr) (nf_bool hx).1 (fun t ht _ => ⟨some (vi x), h, rfl, hf, by rw [ht]; exact A.1, fun q => by rw [hr] at q; cases q⟩) A.2.1 hd C.2.2.2.2.1
theorem sn_aret (C : Cx G lim d j p s m args meth c Rm h0) (A : At0 G lim j h0 h H locs cells slots lsA ls) {o : Option Nat} {t : FieldType} (hr : mrt j = some t) (ht : isRT t = true) (hd : decode (mby j) pc = .ok (.areturn, 1)) (hf : R (some (vr o)) h) : TG G lim l j p e s m args below meth c Rm H locs cells slots R X pc lsA [va_rf o] := by
  refine vx_ret (W.widen (k := Rm.cells) (n := Rm.slots) (A.le C).1 (A.le C).2 ?_)
  exact W.aret C.1 C.2.1 (C.2.2.2.1.trans hr) (by cases t <;> first | exact Or.inl ⟨_, rfl⟩ | exact Or.inr ⟨_, rfl⟩ | cases ht) (by cases o with | none => exact Or.inl rfl | some a => exact Or.inr ⟨a, rfl⟩) (fun t ht _ => ⟨some (vr o), h, rfl, hf, by rw [ht]; exact A.1, fun q => by rw [hr] at q; cases q⟩) A.2.1 hd C.2.2.2.2.1
theorem sn_vret (C : Cx G lim d j p s m args meth c Rm h0) (A : At0 G lim j h0 h H locs cells slots lsA ls) (hr : mrt j = none) (hd : decode (mby j) pc = .ok (.return_, 1)) (hf : R none h) : TG G lim l j p e s m args below meth c Rm H locs cells slots R X pc lsA [] := by
  refine vx_ret (W.widen (k := Rm.cells) (n := Rm.slots) (A.le C).1 (A.le C).2 ?_)
  exact W.vret C.1 C.2.1 (C.2.2.2.1.trans hr) (fun t ht _ => ⟨none, h, rfl, hf, by rw [ht]; exact A.1, fun _ => rfl⟩) A.2.1 hd C.2.2.2.2.1
theorem swt_spec {t : List (Int × Nat)} {x : Int32} {b : Nat} {f : Nat → Prop} (hf : swt t x b f) : (∃ q ∈ t, x = Int32.ofInt q.1 ∧ f q.2) ∨ ((∀ q ∈ t, x ≠ Int32.ofInt q.1) ∧ f b) := by
  induction t with
  | nil => exact Or.inr ⟨fun _ h => by simp at h, hf⟩
  | cons q r ih =>
    by_cases e : x = Int32.ofInt q.1
    · exact Or.inl ⟨q, List.mem_cons_self, e, ite_t hf e⟩
    · rcases ih (ite_f hf e) with ⟨z, h1, h2⟩ | ⟨h1, h2⟩
      · exact Or.inl ⟨z, List.mem_cons_of_mem _ h1, h2⟩
      · exact Or.inr ⟨fun z hz => by rcases List.mem_cons.mp hz with rfl | hz; exact e; exact h1 z hz, h2⟩
theorem ofInt_small {z : Int} (h1 : -2000 ≤ z) (h2 : z ≤ 2000) : (Int32.ofInt z).toInt = z := by
  rw [Int32.toInt_ofInt]
  show z.bmod 4294967296 = z
  exact Int.bmod_eq_of_le (by omega) (by omega)
theorem sn_table (C : Cx G lim d j p s m args meth c Rm h0) (A : At0 G lim j h0 h H locs cells slots lsA ls) {x : Int32} {df lo hi : Int} {offs : Array Int} {len b : Nat} (hd : decode (mby j) pc = .ok (.tableswitch df lo hi offs, len)) (hb : (pc : Int) + df = (b : Int)) (hs : hi + 1 - lo = (offs.size : Int))
    (hp : (List.range offs.size).all (fun (k : Nat) => decide (0 ≤ (pc : Int) + offs.toList.getD k 0)) = true) (h1 : -1000 ≤ lo) (h2 : hi ≤ 1000)
    (hf : swt ((List.range offs.size).map (fun (k : Nat) => (lo + (k : Int), ((pc : Int) + offs.toList.getD k 0).toNat))) x b fun t => Snd G lim l d j t ls r h R X) : TG G lim l j p e s m args below meth c Rm H locs cells slots R X pc lsA (.int x :: r.map toV) := by
  rcases swt_spec hf with ⟨q, hq, hx, hf⟩ | ⟨hno, hf⟩
  · obtain ⟨k, hk, rfl⟩ := List.mem_map.mp hq
    have hk := List.mem_range.mp hk
    have hx : x = Int32.ofInt (lo + (k : Int)) := hx
    have hxi : x.toInt = lo + (k : Int) := by rw [hx]; exact ofInt_small (by omega) (by omega)
    have h0 := of_decide_eq_true (List.all_eq_true.mp hp k (List.mem_range.mpr hk))
    have ho : offs[(x.toInt - lo).toNat]? = some (offs.toList.getD k 0) := by
      rw [hxi, show (lo + (k : Int) - lo).toNat = k by omega, ← Array.getElem?_toList, List.getD_eq_getElem?_getD, List.getElem?_eq_getElem (by rw [Array.length_toList]; exact hk)]; rfl
    exact lv_tableIn C.1 C.2.1 hd (by omega) (by omega) ho (by show _ = (((pc : Int) + offs.toList.getD k 0).toNat : Int); omega) (Snd.go hf C A)
  · refine lv_tableOut C.1 C.2.1 hd ?_ hb (Snd.go hf C A)
    by_cases e1 : x.toInt < lo
    · exact Or.inl e1
    · by_cases e2 : hi < x.toInt
      · exact Or.inr e2
      · refine (hno (lo + ((x.toInt - lo).toNat : Int), _) (List.mem_map.mpr ⟨(x.toInt - lo).toNat, List.mem_range.mpr (by omega), rfl⟩) ?_).elim
        show x = Int32.ofInt (lo + ((x.toInt - lo).toNat : Int))
        rw [show lo + ((x.toInt - lo).toNat : Int) = x.toInt by omega, Int32.ofInt_toInt]
theorem sn_lookup (C : Cx G lim d j p s m args meth c Rm h0) (A : At0 G lim j h0 h H locs cells slots lsA ls) {x : Int32} {df : Int} {ps : Array (Int × Int)} {len b : Nat} (hd : decode (mby j) pc = .ok (.lookupswitch df ps, len)) (hb : (pc : Int) + df = (b : Int))
    (hp : ps.toList.all (fun q => decide (0 ≤ (pc : Int) + q.2) && decide (-1000 ≤ q.1) && decide (q.1 ≤ 1000)) = true) (hz : (ps.toList.zip (ps.toList.drop 1)).all (fun (a, next) => decide (a.1 < next.1)) = true)
    (hf : swt (ps.toList.map (fun q => (q.1, ((pc : Int) + q.2).toNat))) x b fun t => Snd G lim l d j t ls r h R X) : TG G lim l j p e s m args below meth c Rm H locs cells slots R X pc lsA (.int x :: r.map toV) := by
  have key : ∀ t : List (Int × Int), t.all (fun q => decide (0 ≤ (pc : Int) + q.2) && decide (-1000 ≤ q.1) && decide (q.1 ≤ 1000)) = true → swt (t.map (fun q => (q.1, ((pc : Int) + q.2).toNat))) x b (fun t => Snd G lim l d j t ls r h R X) → ∃ tgt : Nat, (pc : Int) + Op.lookupswitch.offset t df x.toInt = (tgt : Int) ∧ Snd G lim l d j tgt ls r h R X := by
    intro t
    induction t with
    | nil => exact fun _ q => ⟨b, hb, q⟩
    | cons q t ih =>
      obtain ⟨qa, qo⟩ := q
      intro ha hs
      rw [List.all_cons, Bool.and_eq_true] at ha
      obtain ⟨ha1, ha2⟩ := ha
      simp only [Bool.and_eq_true, decide_eq_true_eq] at ha1
      by_cases e : x = Int32.ofInt qa
      · have hs := ite_t hs e
        refine ⟨_, ?_, hs⟩
        have hxi : x.toInt = qa := by rw [e]; exact ofInt_small (by omega) (by omega)
        rw [Op.lookupswitch.offset_cons, if_pos hxi.symm]
        show (pc : Int) + qo = (((pc : Int) + qo).toNat : Int)
        omega
      · have hs := ite_f hs e
        obtain ⟨tgt, h1, h2⟩ := ih ha2 hs
        refine ⟨tgt, ?_, h2⟩
        have hxi : ¬ qa = x.toInt := fun q => e (by rw [q, Int32.ofInt_toInt])
        rw [← h1, Op.lookupswitch.offset_cons, if_neg hxi]
  obtain ⟨tgt, h1, h2⟩ := key _ hp hf
  exact lv_lookup C.1 C.2.1 hd hz rfl h1 (Snd.go h2 C A)
theorem cat_le (v : AV) : (toV v).category ≤ 2 := by
  rcases v with x | (_ | a) | x
  · show 1 ≤ 2; decide
  · show 1 ≤ 2; decide
  · show 1 ≤ 2; decide
  · show 2 ≤ 2; decide
theorem cat_sum (r : List AV) : ((r.map toV).map fun v => v.category).sum ≤ 2 * r.length := by
  induction r with
  | nil => exact Nat.le_refl _
  | cons v r ih =>
    have := cat_le v
    simp only [List.map_cons, List.sum_cons, List.length_cons]
    omega
theorem catS_sum (r : List AV) : ((r.map toV).map fun v => v.category).sum = catS r := by
  induction r with
  | nil => rfl
  | cons v r ih =>
    rcases v with x | (_ | a) | x <;> simp only [List.map_cons, List.sum_cons, ih] <;> rfl
theorem sh_spec {r : List AV} {P : Prop} (h : sh r P) : catS r ≤ 8 ∧ P := by
  unfold sh at h
  cases hb : Nat.ble (catS r) 8 with
  | true => rw [hb] at h; exact ⟨Nat.le_of_ble_eq_true hb, h⟩
  | false => rw [hb] at h; exact h.elim
theorem sn_objinit (C : Cx G lim d j p s m args meth c Rm h0) (A : At0 G lim j h0 h H locs cells slots lsA ls) {a idx : Nat} (hr : catS r ≤ 8) (hl : (Cond.methodLink (cname (mown j)) idx Lib.objectInit).before args s = true) (hi : (Cond.instanceMethod Lib.objectInit).before args s = true) (hc : (Cond.code Lib.objectInit ⟨#[0xb1]⟩ 1 none).before args s = true) (hd : decode (mby j) pc = .ok (.invokespecial idx, 3))
    (hf : Snd G lim l d j (pc + 3) ls r h R X) : TG G lim l j p e s m args below meth c Rm H locs cells slots R X pc lsA (.ref a :: r.map toV) := by
  have hq := C.room
  have hs := catS_sum r
  refine W.objInit C.1 C.2.1 C.own hl hi hc rfl (by rw [C.2.2.1]; exact A.2.2.2.2.2.1.1) rfl hd (by omega) (by show 2 * 0 + _ + 12 ≤ _; omega) ?_
  exact Snd.go hf C A
theorem sn_max (C : Cx G lim d j p s m args meth c Rm h0) (A : At0 G lim j h0 h H locs cells slots lsA ls) {idx : Nat} {x y : Int32} (hr : catS r ≤ 8) (hl : (Cond.methodLink (cname (mown j)) idx Lib.Math.max.name).before args s = true) (hi : (Cond.static Lib.Math.max.name).before args s = true) (hini : (Cond.initialized "java/lang/Math").before args s = true) (hc : (Cond.code Lib.Math.max.name Lib.Math.max.code 2 (some .int)).before args s = true) (hd : decode (mby j) pc = .ok (.invokestatic idx, 3))
    (hf : Snd G lim l d j (pc + 3) ls (vi (if x < y then y else x) :: r) h R X) : TG G lim l j p e s m args below meth c Rm H locs cells slots R X pc lsA (.int y :: .int x :: r.map toV) := by
  have hq := C.room
  have hs := catS_sum r
  have hle := A.le C
  exact va_mmax C.1 C.2.1 (by rw [C.2.2.1]; exact A.2.2.2.2.2.1.1.symm) C.own hl hi hini hc (by omega) (by omega) hle.1 hle.2 hd (Snd.go hf C A)
theorem sn_min (C : Cx G lim d j p s m args meth c Rm h0) (A : At0 G lim j h0 h H locs cells slots lsA ls) {idx : Nat} {x y : Int32} (hr : catS r ≤ 8) (hl : (Cond.methodLink (cname (mown j)) idx Lib.Math.min.name).before args s = true) (hi : (Cond.static Lib.Math.min.name).before args s = true) (hini : (Cond.initialized "java/lang/Math").before args s = true) (hc : (Cond.code Lib.Math.min.name Lib.Math.min.code 2 (some .int)).before args s = true) (hd : decode (mby j) pc = .ok (.invokestatic idx, 3))
    (hf : Snd G lim l d j (pc + 3) ls (vi (if x < y then x else y) :: r) h R X) : TG G lim l j p e s m args below meth c Rm H locs cells slots R X pc lsA (.int y :: .int x :: r.map toV) := by
  have hq := C.room
  have hs := catS_sum r
  have hle := A.le C
  have hm : (if y < x then y else x) = (if x < y then x else y) := by
    by_cases a : y < x
    · rw [if_pos a, if_neg (Int32.not_lt.mpr (Int32.le_of_lt a))]
    · by_cases b : x < y
      · rw [if_neg a, if_pos b]
      · rw [if_neg a, if_neg b]; exact Int32.le_antisymm (Int32.not_lt.mp a) (Int32.not_lt.mp b)
  rw [← hm] at hf
  exact va_mmin C.1 C.2.1 (by rw [C.2.2.1]; exact A.2.2.2.2.2.1.1.symm) C.own hl hi hini hc (by omega) (by omega) hle.1 hle.2 hd (Snd.go hf C A)
end SN
