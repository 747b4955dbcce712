/-! ===== soundness, instruction by instruction: locals, numbers, jumps ===== -/
section SN
variable {G : GT} {lim : Nat × Nat} {l : Launch} {d j : Nat} {p : Program} {e : Env} {s : State} {m : MethodId} {args : Array Value} {below : List Frame} {meth : Method} {c : Code} {Rm : Room} {h0 : AHp}
variable {H : Heap} {locs : List Loc} {cells slots : Nat} {lsA : Array Slot} {ls : List (Option AV)} {st : List AV} {h : AHp} {R : RT} {X : XT} {pc : Nat}
abbrev TG (G : GT) (lim : Nat × Nat) (l : Launch) (j : Nat) (p : Program) (e : Env) (s : State) (m : MethodId) (args : Array Value) (below : List Frame) (meth : Method) (c : Code) (Rm : Room) (H : Heap) (locs : List Loc) (cells slots : Nat) (R : RT) (X : XT) (pc : Nat) (lsA : Array Slot) (st : List Value) : Prop :=
  W p l e Rm s m args below meth c H locs cells slots (vx_MQ below (QR G lim j R) (XR G lim X) args s Rm.cells Rm.slots (fre G)) (F0 m pc lsA st)
/-- where a run stands: the heap, what was written, what was made, the locals -/
def At0 (G : GT) (lim : Nat × Nat) (j : Nat) (h0 h : AHp) (H : Heap) (locs : List Loc) (cells slots : Nat) (lsA : Array Slot) (ls : List (Option AV)) : Prop :=
  Rep G lim H h ∧ (∀ z ∈ locs, G.1 ≤ z.base) ∧ cells + hsz h0 = hsz h ∧ slots + hsu h0 = hsu h ∧ lsOK lsA (mnL j) ls
theorem Snd.go (q : Snd G lim l d j pc ls st h R X) (C : Cx G lim d j p s m args meth c Rm h0) (A : At0 G lim j h0 h H locs cells slots lsA ls) : TG G lim l j p e s m args below meth c Rm H locs cells slots R X pc lsA (st.map toV) :=
  q p e s m args below meth c Rm h0 C H locs cells slots lsA A.1 A.2.1 A.2.2.1 A.2.2.2.1 A.2.2.2.2
theorem sn_iload (C : Cx G lim d j p s m args meth c Rm h0) (A : At0 G lim j h0 h H locs cells slots lsA ls) {k nx : Nat} (hd : (∃ f : Fin 4, f.val = k ∧ nx = pc + 1 ∧ decode (mby j) pc = .ok (.iload_n f, 1)) ∨ (nx = pc + 2 ∧ decode (mby j) pc = .ok (.iload k, 2)))
    (hf : getL ls k fun v => asI v fun x => Snd G lim l d j nx ls (vi x :: st) h R X) : TG G lim l j p e s m args below meth c Rm H locs cells slots R X pc lsA (st.map toV) := by
  obtain ⟨v, hv, hf2⟩ := getL_spec hf
  rcases v with x | o | x
  · have hl := A.2.2.2.2.at hv
    rcases hd with ⟨f, rfl, rfl, hd⟩ | ⟨rfl, hd⟩
    · exact lv_iload_n C.1 C.2.1 hd rfl hl (Snd.go hf2 C A)
    · exact lv_iload C.1 C.2.1 hd hl (Snd.go hf2 C A)
  · exact hf2.elim
  · exact hf2.elim
theorem sn_aload (C : Cx G lim d j p s m args meth c Rm h0) (A : At0 G lim j h0 h H locs cells slots lsA ls) {k nx : Nat} (hd : (∃ f : Fin 4, f.val = k ∧ nx = pc + 1 ∧ decode (mby j) pc = .ok (.aload_n f, 1)) ∨ (nx = pc + 2 ∧ decode (mby j) pc = .ok (.aload k, 2)))
    (hf : getL ls k fun v => asR v fun o => Snd G lim l d j nx ls (vr o :: st) h R X) : TG G lim l j p e s m args below meth c Rm H locs cells slots R X pc lsA (st.map toV) := by
  obtain ⟨v, hv, hf2⟩ := getL_spec hf
  rcases v with x | o | x
  · exact hf2.elim
  · have hl := A.2.2.2.2.at hv
    rcases o with _ | a
    · rcases hd with ⟨f, rfl, rfl, hd⟩ | ⟨rfl, hd⟩
      · exact lv_aload_nN C.1 C.2.1 hd rfl hl (Snd.go hf2 C A)
      · exact lv_aloadN C.1 C.2.1 hd hl (Snd.go hf2 C A)
    · rcases hd with ⟨f, rfl, rfl, hd⟩ | ⟨rfl, hd⟩
      · exact lv_aload_n C.1 C.2.1 hd rfl hl (Snd.go hf2 C A)
      · exact lv_aload C.1 C.2.1 hd hl (Snd.go hf2 C A)
  · exact hf2.elim
theorem At0.loc {lsA' : Array Slot} {ls' : List (Option AV)} (A : At0 G lim j h0 h H locs cells slots lsA ls) (hl : lsOK lsA' (mnL j) ls') : At0 G lim j h0 h H locs cells slots lsA' ls' := ⟨A.1, A.2.1, A.2.2.1, A.2.2.2.1, hl⟩
theorem sn_istore (C : Cx G lim d j p s m args meth c Rm h0) (A : At0 G lim j h0 h H locs cells slots lsA ls) {k nx : Nat} (hk : k < mnL j) (hd : (∃ f : Fin 4, f.val = k ∧ nx = pc + 1 ∧ decode (mby j) pc = .ok (.istore_n f, 1)) ∨ (nx = pc + 2 ∧ decode (mby j) pc = .ok (.istore k, 2)))
    (hf : pI st fun x r => Snd G lim l d j nx (ls.set k (some (vi x))) r h R X) : TG G lim l j p e s m args below meth c Rm H locs cells slots R X pc lsA (st.map toV) := by
  rcases st with _ | ⟨x | o | x, r⟩
  · exact hf.elim
  · rcases hd with ⟨f, rfl, rfl, hd⟩ | ⟨rfl, hd⟩
    · exact lv_istore_n C.1 C.2.1 hd rfl A.2.2.2.2.2.1 hk rfl (fun ls' h' => Snd.go hf C (A.loc (A.2.2.2.2.set hk rfl h')))
    · exact lv_istore C.1 C.2.1 hd A.2.2.2.2.2.1 hk rfl (fun ls' h' => Snd.go hf C (A.loc (A.2.2.2.2.set hk rfl h')))
  · exact hf.elim
  · exact hf.elim
theorem sn_astore (C : Cx G lim d j p s m args meth c Rm h0) (A : At0 G lim j h0 h H locs cells slots lsA ls) {k nx : Nat} (hk : k < mnL j) (hd : (∃ f : Fin 4, f.val = k ∧ nx = pc + 1 ∧ decode (mby j) pc = .ok (.astore_n f, 1)) ∨ (nx = pc + 2 ∧ decode (mby j) pc = .ok (.astore k, 2)))
    (hf : pR st fun o r => Snd G lim l d j nx (ls.set k (some (vr o))) r h R X) : TG G lim l j p e s m args below meth c Rm H locs cells slots R X pc lsA (st.map toV) := by
  rcases st with _ | ⟨x | o | x, r⟩
  · exact hf.elim
  · exact hf.elim
  · rcases o with _ | a
    · rcases hd with ⟨f, rfl, rfl, hd⟩ | ⟨rfl, hd⟩
      · exact lv_astore_nN C.1 C.2.1 hd rfl A.2.2.2.2.2.1 hk rfl (fun ls' h' => Snd.go hf C (A.loc (A.2.2.2.2.set hk rfl h')))
      · exact lv_astoreN C.1 C.2.1 hd A.2.2.2.2.2.1 hk rfl (fun ls' h' => Snd.go hf C (A.loc (A.2.2.2.2.set hk rfl h')))
    · rcases hd with ⟨f, rfl, rfl, hd⟩ | ⟨rfl, hd⟩
      · exact lv_astore_n C.1 C.2.1 hd rfl A.2.2.2.2.2.1 hk rfl (fun ls' h' => Snd.go hf C (A.loc (A.2.2.2.2.set hk rfl h')))
      · exact lv_astore C.1 C.2.1 hd A.2.2.2.2.2.1 hk rfl (fun ls' h' => Snd.go hf C (A.loc (A.2.2.2.2.set hk rfl h')))
  · exact hf.elim
theorem sn_iconst (C : Cx G lim d j p s m args meth c Rm h0) (A : At0 G lim j h0 h H locs cells slots lsA ls) {n : Int} {nx : Nat}
    (hd : (nx = pc + 1 ∧ decode (mby j) pc = .ok (.iconst n, 1)) ∨ (nx = pc + 2 ∧ decode (mby j) pc = .ok (.bipush n, 2) ∧ (Int8.ofInt n).toInt32 = Int32.ofInt n) ∨ (nx = pc + 3 ∧ decode (mby j) pc = .ok (.sipush n, 3) ∧ (Int16.ofInt n).toInt32 = Int32.ofInt n)
      ∨ (∃ k, (nx = pc + 2 ∧ decode (mby j) pc = .ok (.ldc k, 2) ∨ nx = pc + 3 ∧ decode (mby j) pc = .ok (.ldc_w k, 3)) ∧ (Cond.constant (cname (mown j)) k (Int32.ofInt n)).before args s = true))
    (hf : Snd G lim l d j nx ls (vi (Int32.ofInt n) :: st) h R X) : TG G lim l j p e s m args below meth c Rm H locs cells slots R X pc lsA (st.map toV) := by
  rcases hd with ⟨rfl, hd⟩ | ⟨rfl, hd, hv⟩ | ⟨rfl, hd, hv⟩ | ⟨k, ⟨rfl, hd⟩ | ⟨rfl, hd⟩, hv⟩
  · exact lv_iconst C.1 C.2.1 hd rfl (Snd.go hf C A)
  · exact lv_bipush C.1 C.2.1 hd hv (Snd.go hf C A)
  · exact lv_sipush C.1 C.2.1 hd hv (Snd.go hf C A)
  · exact lv_ldc C.1 C.2.1 C.2.2.2.2.2.1 hv hd (Snd.go hf C A)
  · exact lv_ldcw C.1 C.2.1 C.2.2.2.2.2.1 hv hd (Snd.go hf C A)
theorem sn_null (C : Cx G lim d j p s m args meth c Rm h0) (A : At0 G lim j h0 h H locs cells slots lsA ls) (hd : decode (mby j) pc = .ok (.aconst_null, 1)) (hf : Snd G lim l d j (pc + 1) ls (vr none :: st) h R X) : TG G lim l j p e s m args below meth c Rm H locs cells slots R X pc lsA (st.map toV) :=
  lv_null C.1 C.2.1 hd (Snd.go hf C A)
theorem i64nat (n : Fin 2) : Int64.ofNat n.val = Int64.ofInt (n.val : Int) := by
  rcases n with ⟨_ | _ | n, hn⟩
  · rfl
  · rfl
  · exact absurd hn (by omega)
theorem sn_lconst (C : Cx G lim d j p s m args meth c Rm h0) (A : At0 G lim j h0 h H locs cells slots lsA ls) {n : Fin 2} (hd : decode (mby j) pc = .ok (.lconst n, 1)) (hf : Snd G lim l d j (pc + 1) ls (vl (Int64.ofInt (n.val : Int)) :: st) h R X) : TG G lim l j p e s m args below meth c Rm H locs cells slots R X pc lsA (st.map toV) :=
  lv_lconst C.1 C.2.1 hd (i64nat n) (Snd.go hf C A)
theorem sn_bin (C : Cx G lim d j p s m args meth c Rm h0) (A : At0 G lim j h0 h H locs cells slots lsA ls) {k : Nat}
    (hd : (k = 0 ∧ decode (mby j) pc = .ok (.iadd, 1)) ∨ (k = 1 ∧ decode (mby j) pc = .ok (.isub, 1)) ∨ (k = 2 ∧ decode (mby j) pc = .ok (.imul, 1)) ∨ (k = 3 ∧ decode (mby j) pc = .ok (.iand, 1)) ∨ (k = 4 ∧ decode (mby j) pc = .ok (.ior, 1)) ∨ (k = 5 ∧ decode (mby j) pc = .ok (.ixor, 1)) ∨ (k = 6 ∧ decode (mby j) pc = .ok (.ishl, 1)) ∨ (k = 7 ∧ decode (mby j) pc = .ok (.ishr, 1)) ∨ (k = 8 ∧ decode (mby j) pc = .ok (.iushr, 1)))
    (hf : pI st fun y r => pI r fun x r => Snd G lim l d j (pc + 1) ls (vi (bin k x y) :: r) h R X) : TG G lim l j p e s m args below meth c Rm H locs cells slots R X pc lsA (st.map toV) := by
  rcases st with _ | ⟨y | o | y, _ | ⟨x | o2 | x, r⟩⟩
  all_goals try exact hf.elim
  rcases hd with ⟨rfl, hd⟩ | ⟨rfl, hd⟩ | ⟨rfl, hd⟩ | ⟨rfl, hd⟩ | ⟨rfl, hd⟩ | ⟨rfl, hd⟩ | ⟨rfl, hd⟩ | ⟨rfl, hd⟩ | ⟨rfl, hd⟩
  · exact lv_iadd C.1 C.2.1 hd (Snd.go hf C A)
  · exact lv_isub C.1 C.2.1 hd (Snd.go hf C A)
  · exact lv_imul C.1 C.2.1 hd (Snd.go hf C A)
  · exact lv_iand C.1 C.2.1 hd (Snd.go hf C A)
  · exact lv_ior C.1 C.2.1 hd (Snd.go hf C A)
  · exact lv_ixor C.1 C.2.1 hd (Snd.go hf C A)
  · exact lv_ishl C.1 C.2.1 hd (Snd.go hf C A)
  · exact lv_ishr C.1 C.2.1 hd (Snd.go hf C A)
  · exact lv_iushr C.1 C.2.1 hd rfl (Snd.go hf C A)
theorem sn_idiv (C : Cx G lim d j p s m args meth c Rm h0) (A : At0 G lim j h0 h H locs cells slots lsA ls) (hd : decode (mby j) pc = .ok (.idiv, 1))
    (hf : pI st fun y r => pI r fun x r => ¬ y = 0 ∧ Snd G lim l d j (pc + 1) ls (vi (x / y) :: r) h R X) : TG G lim l j p e s m args below meth c Rm H locs cells slots R X pc lsA (st.map toV) := by
  rcases st with _ | ⟨y | o | y, _ | ⟨x | o2 | x, r⟩⟩
  all_goals try exact hf.elim
  exact lv_idiv C.1 C.2.1 hd hf.1 (Snd.go hf.2 C A)
theorem sn_irem (C : Cx G lim d j p s m args meth c Rm h0) (A : At0 G lim j h0 h H locs cells slots lsA ls) (hd : decode (mby j) pc = .ok (.irem, 1))
    (hf : pI st fun y r => pI r fun x r => ¬ y = 0 ∧ Snd G lim l d j (pc + 1) ls (vi (x - x / y * y) :: r) h R X) : TG G lim l j p e s m args below meth c Rm H locs cells slots R X pc lsA (st.map toV) := by
  rcases st with _ | ⟨y | o | y, _ | ⟨x | o2 | x, r⟩⟩
  all_goals try exact hf.elim
  exact lv_irem C.1 C.2.1 hd hf.1 (Snd.go hf.2 C A)
theorem sn_ineg (C : Cx G lim d j p s m args meth c Rm h0) (A : At0 G lim j h0 h H locs cells slots lsA ls) (hd : decode (mby j) pc = .ok (.ineg, 1))
    (hf : pI st fun x r => Snd G lim l d j (pc + 1) ls (vi (-x) :: r) h R X) : TG G lim l j p e s m args below meth c Rm H locs cells slots R X pc lsA (st.map toV) := by
  rcases st with _ | ⟨x | o | x, r⟩
  all_goals try exact hf.elim
  exact lv_ineg C.1 C.2.1 hd (Snd.go hf C A)
theorem lvl_at {ls : List (Option AV)} {k : Nat} {v : AV} (h : ls[k]? = some (some v)) : ∃ n : Nat, (lvl ls)[n]? = some (k, toV v) := by
  obtain ⟨n, hn, e⟩ := List.getElem_of_mem (lvl_mem h)
  exact ⟨n, by rw [List.getElem?_eq_getElem hn, e]⟩
theorem sn_iinc (C : Cx G lim d j p s m args meth c Rm h0) (A : At0 G lim j h0 h H locs cells slots lsA ls) {k : Nat} {n : Int} (hd : decode (mby j) pc = .ok (.iinc k n, 3))
    (hf : getL ls k fun v => asI v fun x => Snd G lim l d j (pc + 3) (ls.set k (some (vi (x + Int32.ofInt n)))) st h R X) : TG G lim l j p e s m args below meth c Rm H locs cells slots R X pc lsA (st.map toV) := by
  obtain ⟨v, hv, hf2⟩ := getL_spec hf
  rcases v with x | o | x
  · obtain ⟨q, hq⟩ := lvl_at hv
    have hk : k < mnL j := by rw [← A.2.2.2.2.1]; exact (List.getElem?_eq_some_iff.mp hv).1
    exact lv_iinc C.1 C.2.1 hd A.2.2.2.2.2.1 hq rfl hk rfl (fun ls' h' => Snd.go hf2 C (A.loc (A.2.2.2.2.set hk rfl h')))
  · exact hf2.elim
  · exact hf2.elim
theorem sn_i2l (C : Cx G lim d j p s m args meth c Rm h0) (A : At0 G lim j h0 h H locs cells slots lsA ls) (hd : decode (mby j) pc = .ok (.i2l, 1))
    (hf : pI st fun x r => Snd G lim l d j (pc + 1) ls (vl x.toInt64 :: r) h R X) : TG G lim l j p e s m args below meth c Rm H locs cells slots R X pc lsA (st.map toV) := by
  rcases st with _ | ⟨x | o | x, r⟩
  all_goals try exact hf.elim
  exact lv_i2l C.1 C.2.1 hd rfl (Snd.go hf C A)
theorem sn_lcmp (C : Cx G lim d j p s m args meth c Rm h0) (A : At0 G lim j h0 h H locs cells slots lsA ls) (hd : decode (mby j) pc = .ok (.lcmp, 1))
    (hf : pL st fun y r => pL r fun x r => Snd G lim l d j (pc + 1) ls (vi (lg_cmp x y) :: r) h R X) : TG G lim l j p e s m args below meth c Rm H locs cells slots R X pc lsA (st.map toV) := by
  rcases st with _ | ⟨y | o | y, _ | ⟨x | o2 | x, r⟩⟩
  all_goals try exact hf.elim
  exact W.lcmp C.1 C.2.1 hd (Snd.go hf C A)
theorem sn_dup (C : Cx G lim d j p s m args meth c Rm h0) (A : At0 G lim j h0 h H locs cells slots lsA ls) (hd : decode (mby j) pc = .ok (.dup, 1))
    (hf : pR st fun o r => Snd G lim l d j (pc + 1) ls (vr o :: vr o :: r) h R X) : TG G lim l j p e s m args below meth c Rm H locs cells slots R X pc lsA (st.map toV) := by
  rcases st with _ | ⟨x | o | x, r⟩
  all_goals try exact hf.elim
  exact lv_dup C.1 C.2.1 hd (by cases o <;> rfl) (Snd.go hf C A)
theorem sn_dup2 (C : Cx G lim d j p s m args meth c Rm h0) (A : At0 G lim j h0 h H locs cells slots lsA ls) (hd : decode (mby j) pc = .ok (.dup2, 1))
    (hf : pI st fun x r => pR r fun o r => Snd G lim l d j (pc + 1) ls (vi x :: vr o :: vi x :: vr o :: r) h R X) : TG G lim l j p e s m args below meth c Rm H locs cells slots R X pc lsA (st.map toV) := by
  rcases st with _ | ⟨y | o | y, _ | ⟨x | o2 | x, r⟩⟩
  all_goals try exact hf.elim
  exact lv_dup2_11 C.1 C.2.1 hd rfl (by cases o2 <;> rfl) (Snd.go hf C A)
theorem sn_pop (C : Cx G lim d j p s m args meth c Rm h0) (A : At0 G lim j h0 h H locs cells slots lsA ls) (hd : decode (mby j) pc = .ok (.pop, 1))
    (hf : pI st fun _ r => Snd G lim l d j (pc + 1) ls r h R X) : TG G lim l j p e s m args below meth c Rm H locs cells slots R X pc lsA (st.map toV) := by
  rcases st with _ | ⟨x | o | x, r⟩
  all_goals try exact hf.elim
  exact lv_pop C.1 C.2.1 hd rfl (Snd.go hf C A)
theorem sn_goto (C : Cx G lim d j p s m args meth c Rm h0) (A : At0 G lim j h0 h H locs cells slots lsA ls) {f : Int} {t : Nat} (hd : decode (mby j) pc = .ok (.goto f, 3)) (ht : (pc : Int) + f = (t : Int)) (hf : Snd G lim l d j t ls st h R X) : TG G lim l j p e s m args below meth c Rm H locs cells slots R X pc lsA (st.map toV) :=
  lv_goto C.1 C.2.1 hd ht (Snd.go hf C A)
theorem br_eq {x y : Int32} {P Q : Prop} (h : br 0 x y P Q) : (x = y → P) ∧ (¬ x = y → Q) := ⟨fun e => by have h : if x = y then P else Q := h; rwa [if_pos e] at h, fun e => by have h : if x = y then P else Q := h; rwa [if_neg e] at h⟩
theorem br_ne {x y : Int32} {P Q : Prop} (h : br 1 x y P Q) : (¬ x = y → P) ∧ (x = y → Q) := ⟨fun e => by have h : if x = y then Q else P := h; rwa [if_neg e] at h, fun e => by have h : if x = y then Q else P := h; rwa [if_pos e] at h⟩
theorem br_lt {x y : Int32} {P Q : Prop} (h : br 2 x y P Q) : (x < y → P) ∧ (¬ x < y → Q) := ⟨fun e => by have h : if x < y then P else Q := h; rwa [if_pos e] at h, fun e => by have h : if x < y then P else Q := h; rwa [if_neg e] at h⟩
theorem br_ge {x y : Int32} {P Q : Prop} (h : br 3 x y P Q) : (y ≤ x → P) ∧ (¬ y ≤ x → Q) := ⟨fun e => by have h : if x < y then Q else P := h; rwa [if_neg (Int32.not_lt.mpr e)] at h, fun e => by have h : if x < y then Q else P := h; rwa [if_pos (Int32.not_le.mp e)] at h⟩
theorem br_gt {x y : Int32} {P Q : Prop} (h : br 4 x y P Q) : (y < x → P) ∧ (¬ y < x → Q) := ⟨fun e => by have h : if y < x then P else Q := h; rwa [if_pos e] at h, fun e => by have h : if y < x then P else Q := h; rwa [if_neg e] at h⟩
theorem br_le {x y : Int32} {P Q : Prop} (h : br 5 x y P Q) : (x ≤ y → P) ∧ (¬ x ≤ y → Q) := ⟨fun e => by have h : if y < x then Q else P := h; rwa [if_neg (Int32.not_lt.mpr e)] at h, fun e => by have h : if y < x then Q else P := h; rwa [if_pos (Int32.not_le.mp e)] at h⟩
theorem sn_if (C : Cx G lim d j p s m args meth c Rm h0) (A : At0 G lim j h0 h H locs cells slots lsA ls) {k : ClassFile.Cond} {f : Int} {t : Nat} (hd : decode (mby j) pc = .ok (.ifCond k f, 3)) (ht : (pc : Int) + f = (t : Int))
    (hf : pI st fun x r => br (ccode k) x 0 (Snd G lim l d j t ls r h R X) (Snd G lim l d j (pc + 3) ls r h R X)) : TG G lim l j p e s m args below meth c Rm H locs cells slots R X pc lsA (st.map toV) := by
  rcases st with _ | ⟨x | o | x, r⟩
  all_goals try exact hf.elim
  cases k with
  | eq => exact lv_if_eq C.1 C.2.1 hd ht (fun q => Snd.go ((br_eq hf).1 q) C A) (fun q => Snd.go ((br_eq hf).2 q) C A)
  | ne => exact lv_if_ne C.1 C.2.1 hd ht (fun q => Snd.go ((br_ne hf).1 q) C A) (fun q => Snd.go ((br_ne hf).2 q) C A)
  | lt => exact lv_if_lt C.1 C.2.1 hd ht (fun q => Snd.go ((br_lt hf).1 q) C A) (fun q => Snd.go ((br_lt hf).2 q) C A)
  | ge => exact lv_if_ge C.1 C.2.1 hd ht (fun q => Snd.go ((br_ge hf).1 q) C A) (fun q => Snd.go ((br_ge hf).2 q) C A)
  | gt => exact lv_if_gt C.1 C.2.1 hd ht (fun q => Snd.go ((br_gt hf).1 q) C A) (fun q => Snd.go ((br_gt hf).2 q) C A)
  | le => exact lv_if_le C.1 C.2.1 hd ht (fun q => Snd.go ((br_le hf).1 q) C A) (fun q => Snd.go ((br_le hf).2 q) C A)
theorem sn_icmp (C : Cx G lim d j p s m args meth c Rm h0) (A : At0 G lim j h0 h H locs cells slots lsA ls) {k : ClassFile.Cond} {f : Int} {t : Nat} (hd : decode (mby j) pc = .ok (.if_icmp k f, 3)) (ht : (pc : Int) + f = (t : Int))
    (hf : pI st fun y r => pI r fun x r => br (ccode k) x y (Snd G lim l d j t ls r h R X) (Snd G lim l d j (pc + 3) ls r h R X)) : TG G lim l j p e s m args below meth c Rm H locs cells slots R X pc lsA (st.map toV) := by
  rcases st with _ | ⟨y | o | y, _ | ⟨x | o2 | x, r⟩⟩
  all_goals try exact hf.elim
  cases k with
  | eq => exact lv_icmp_eq C.1 C.2.1 hd ht (fun q => Snd.go ((br_eq hf).1 q) C A) (fun q => Snd.go ((br_eq hf).2 q) C A)
  | ne => exact lv_icmp_ne C.1 C.2.1 hd ht (fun q => Snd.go ((br_ne hf).1 q) C A) (fun q => Snd.go ((br_ne hf).2 q) C A)
  | lt => exact lv_icmp_lt C.1 C.2.1 hd ht (fun q => Snd.go ((br_lt hf).1 q) C A) (fun q => Snd.go ((br_lt hf).2 q) C A)
  | ge => exact lv_icmp_ge C.1 C.2.1 hd ht (fun q => Snd.go ((br_ge hf).1 q) C A) (fun q => Snd.go ((br_ge hf).2 q) C A)
  | gt => exact lv_icmp_gt C.1 C.2.1 hd ht (fun q => Snd.go ((br_gt hf).1 q) C A) (fun q => Snd.go ((br_gt hf).2 q) C A)
  | le => exact lv_icmp_le C.1 C.2.1 hd ht (fun q => Snd.go ((br_le hf).1 q) C A) (fun q => Snd.go ((br_le hf).2 q) C A)
theorem ite_t {c P Q : Prop} [Decidable c] (h : if c then P else Q) (q : c) : P := by rwa [if_pos q] at h
theorem ite_f {c P Q : Prop} [Decidable c] (h : if c then P else Q) (q : ¬ c) : Q := by rwa [if_neg q] at h
theorem sn_aeq (C : Cx G lim d j p s m args meth c Rm h0) (A : At0 G lim j h0 h H locs cells slots lsA ls) {f : Int} {t : Nat} (hd : decode (mby j) pc = .ok (.if_acmp .eq f, 3)) (ht : (pc : Int) + f = (t : Int))
    (hf : pR st fun y r => pR r fun x r => if x = y then Snd G lim l d j t ls r h R X else Snd G lim l d j (pc + 3) ls r h R X) : TG G lim l j p e s m args below meth c Rm H locs cells slots R X pc lsA (st.map toV) := by
  rcases st with _ | ⟨y | o | y, _ | ⟨x | o2 | x, r⟩⟩
  all_goals try exact hf.elim
  exact lv_acmp_eq C.1 C.2.1 hd ht (fun q => Snd.go (ite_t hf q) C A) (fun q => Snd.go (ite_f hf q) C A)
theorem sn_ane (C : Cx G lim d j p s m args meth c Rm h0) (A : At0 G lim j h0 h H locs cells slots lsA ls) {f : Int} {t : Nat} (hd : decode (mby j) pc = .ok (.if_acmp .ne f, 3)) (ht : (pc : Int) + f = (t : Int))
    (hf : pR st fun y r => pR r fun x r => if x = y then Snd G lim l d j (pc + 3) ls r h R X else Snd G lim l d j t ls r h R X) : TG G lim l j p e s m args below meth c Rm H locs cells slots R X pc lsA (st.map toV) := by
  rcases st with _ | ⟨y | o | y, _ | ⟨x | o2 | x, r⟩⟩
  all_goals try exact hf.elim
  exact lv_acmp_ne C.1 C.2.1 hd ht (fun q => Snd.go (ite_f hf q) C A) (fun q => Snd.go (ite_t hf q) C A)
theorem sn_ifnull (C : Cx G lim d j p s m args meth c Rm h0) (A : At0 G lim j h0 h H locs cells slots lsA ls) {f : Int} {t : Nat} (hd : decode (mby j) pc = .ok (.ifnull f, 3)) (ht : (pc : Int) + f = (t : Int))
    (hf : pR st fun o r => ifN o (Snd G lim l d j t ls r h R X) (Snd G lim l d j (pc + 3) ls r h R X)) : TG G lim l j p e s m args below meth c Rm H locs cells slots R X pc lsA (st.map toV) := by
  rcases st with _ | ⟨x | (_ | a) | x, r⟩
  all_goals try exact hf.elim
  · exact lv_ifnullN C.1 C.2.1 hd ht (Snd.go hf C A)
  · exact lv_ifnull C.1 C.2.1 hd (Snd.go hf C A)
theorem sn_ifnonnull (C : Cx G lim d j p s m args meth c Rm h0) (A : At0 G lim j h0 h H locs cells slots lsA ls) {f : Int} {t : Nat} (hd : decode (mby j) pc = .ok (.ifnonnull f, 3)) (ht : (pc : Int) + f = (t : Int))
    (hf : pR st fun o r => ifN o (Snd G lim l d j (pc + 3) ls r h R X) (Snd G lim l d j t ls r h R X)) : TG G lim l j p e s m args below meth c Rm H locs cells slots R X pc lsA (st.map toV) := by
  rcases st with _ | ⟨x | (_ | a) | x, r⟩
  all_goals try exact hf.elim
  · exact lv_ifnonnullN C.1 C.2.1 hd (Snd.go hf C A)
  · exact lv_ifnonnull C.1 C.2.1 hd ht (Snd.go hf C A)
end SN
