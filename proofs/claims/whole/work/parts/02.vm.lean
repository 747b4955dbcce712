/-! ===== the abstract machine: values, heap, one instruction ===== -/
abbrev AV : Type := Int32 ⊕ (Option Nat ⊕ Int64)
abbrev vi (x : Int32) : AV := .inl x
abbrev vr (o : Option Nat) : AV := .inr (.inl o)
abbrev vl (x : Int64) : AV := .inr (.inr x)
def toV : AV → Value
  | .inl x => .int x
  | .inr (.inl o) => va_rf o
  | .inr (.inr x) => .long x
abbrev AHp : Type := (Nat × Nat) × (Nat → Nat) × (Nat → Nat) × (Nat → Nat → Int32) × (Nat → Nat → Option Nat) × (Nat → Nat → Int64)
def hsz (h : AHp) : Nat := h.1.1
def hsu (h : AHp) : Nat := h.1.2
def hk (h : AHp) : Nat → Nat := h.2.1
def hLen (h : AHp) : Nat → Nat := h.2.2.1
def hI (h : AHp) : Nat → Nat → Int32 := h.2.2.2.1
def hP (h : AHp) : Nat → Nat → Option Nat := h.2.2.2.2.1
def hJ (h : AHp) : Nat → Nat → Int64 := h.2.2.2.2.2
def up2 {α : Type} (f : Nat → Nat → α) (a k : Nat) (v : α) : Nat → Nat → α := fun b j => if b = a ∧ j = k then v else f b j
def cl2 {α : Type} (f : Nat → Nat → α) (a : Nat) (v : α) : Nat → Nat → α := fun b j => if b = a then v else f b j
def up1 {α : Type} (f : Nat → α) (a : Nat) (v : α) : Nat → α := fun b => if b = a then v else f b
def sI (h : AHp) (a k : Nat) (v : Int32) : AHp := (h.1, hk h, hLen h, up2 (hI h) a k v, hP h, hJ h)
def sP (h : AHp) (a k : Nat) (v : Option Nat) : AHp := (h.1, hk h, hLen h, hI h, up2 (hP h) a k v, hJ h)
def sJ (h : AHp) (a k : Nat) (v : Int64) : AHp := (h.1, hk h, hLen h, hI h, hP h, up2 (hJ h) a k v)
/-- a new cell of kind c with n slots -/
def nw (h : AHp) (c n : Nat) : AHp := ((hsz h + 1, hsu h + n), up1 (hk h) (hsz h) c, up1 (hLen h) (hsz h) n, cl2 (hI h) (hsz h) 0, cl2 (hP h) (hsz h) none, cl2 (hJ h) (hsz h) 0)
/-- grown by something unknown -/
def gr (h : AHp) (s u : Nat) : AHp := ((s, u), (fun a => if a < hsz h then hk h a else 99), hLen h, hI h, hP h, hJ h)
abbrev Ins : Type := Nat × Nat × Nat × Nat × Int × List (Int × Nat)
def onR (o : Option Nat) (f : Nat → Prop) : Prop := match o with
  | some a => f a
  | none => False
def ifN (o : Option Nat) (A B : Prop) : Prop := match o with
  | none => A
  | some _ => B
def getL : List (Option AV) → Nat → (AV → Prop) → Prop
  | [], _, _ => False
  | v :: _, 0, f => (match v with | some v => f v | none => False)
  | _ :: r, k + 1, f => getL r k f
def asI (v : AV) (f : Int32 → Prop) : Prop := match v with
  | .inl x => f x
  | _ => False
def asR (v : AV) (f : Option Nat → Prop) : Prop := match v with
  | .inr (.inl o) => f o
  | _ => False
def pA (st : List AV) (f : AV → List AV → Prop) : Prop := match st with
  | v :: r => f v r
  | [] => False
def pI (st : List AV) (f : Int32 → List AV → Prop) : Prop := match st with
  | .inl x :: r => f x r
  | _ => False
def pR (st : List AV) (f : Option Nat → List AV → Prop) : Prop := match st with
  | .inr (.inl o) :: r => f o r
  | _ => False
def pL (st : List AV) (f : Int64 → List AV → Prop) : Prop := match st with
  | .inr (.inr x) :: r => f x r
  | _ => False
/-- the n values on top, the deepest first (no longs) -/
def pN : Nat → List AV → List AV → (List AV → List AV → Prop) → Prop
  | 0, st, acc, f => f acc st
  | n + 1, .inl x :: r, acc, f => pN n r (vi x :: acc) f
  | n + 1, .inr (.inl o) :: r, acc, f => pN n r (vr o :: acc) f
  | _ + 1, _, _, _ => False
def catS : List AV → Nat
  | [] => 0
  | .inr (.inr _) :: r => 2 + catS r
  | _ :: r => 1 + catS r
/-- what stays on the stack below a call is little -/
def sh (r : List AV) (P : Prop) : Prop := cond (Nat.ble (catS r) 8) P False
def br (k : Nat) (x y : Int32) (A B : Prop) : Prop :=
  if k = 0 then (if x = y then A else B) else if k = 1 then (if x = y then B else A) else if k = 2 then (if x < y then A else B)
  else if k = 3 then (if x < y then B else A) else if k = 4 then (if y < x then A else B) else (if y < x then B else A)
def bin (k : Nat) (x y : Int32) : Int32 :=
  if k = 0 then x + y else if k = 1 then x - y else if k = 2 then x * y else if k = 3 then x &&& y else if k = 4 then x ||| y else if k = 5 then x ^^^ y
  else if k = 6 then x <<< (y &&& 31) else if k = 7 then x >>> (y &&& 31) else (x.toUInt32 >>> (y.toUInt32 &&& Int32.toUInt32 31)).toInt32
def swt : List (Int × Nat) → Int32 → Nat → (Nat → Prop) → Prop
  | [], _, d, f => f d
  | q :: r, x, d, f => if x = Int32.ofInt q.1 then f q.2 else swt r x d f
def onI (v : Option AV) (f : Int32 → Prop) : Prop := match v with
  | some (.inl x) => f x
  | _ => False
def onO (v : Option AV) (f : Option Nat → Prop) : Prop := match v with
  | some (.inr (.inl o)) => f o
  | _ => False
/-- an index inside -/
def ix (i : Int32) (n : Nat) : Prop := 0 ≤ i ∧ i.toNatClampNeg < n
abbrev KT : Type := Nat → List (Option AV) → List AV → AHp → Prop
abbrev RT : Type := Option AV → AHp → Prop
abbrev XT : Type := Nat → AHp → Prop
abbrev CT : Type := Nat → List AV → AHp → RT → XT → Prop
/-- the bits of a boolean's type -/
def b01 (x : Int32) : Prop := x = 0 ∨ x = 1
section EXEC
variable (CALL : CT) (K : KT) (R : RT) (X : XT) (lim : Nat × Nat) (hnd : Nat → Option Nat) (i : Ins) (ls : List (Option AV)) (st : List AV) (h : AHp)
abbrev nxt : Nat := i.2.2.2.1
def x_iload : Prop := getL ls i.2.1 fun v => asI v fun x => K i.2.2.2.1 ls (vi x :: st) h
def x_aload : Prop := getL ls i.2.1 fun v => asR v fun o => K i.2.2.2.1 ls (vr o :: st) h
def x_istore : Prop := pI st fun x r => K i.2.2.2.1 (ls.set i.2.1 (some (vi x))) r h
def x_astore : Prop := pR st fun o r => K i.2.2.2.1 (ls.set i.2.1 (some (vr o))) r h
def x_iconst : Prop := K i.2.2.2.1 ls (vi (Int32.ofInt i.2.2.2.2.1) :: st) h
def x_null : Prop := K i.2.2.2.1 ls (vr none :: st) h
def x_lconst : Prop := K i.2.2.2.1 ls (vl (Int64.ofInt i.2.2.2.2.1) :: st) h
def x_getI : Prop := pR st fun o r => onR o fun a => hk h a = i.2.1 ∧ K i.2.2.2.1 ls (vi (hI h a i.2.2.1) :: r) h
def x_getP : Prop := pR st fun o r => onR o fun a => hk h a = i.2.1 ∧ K i.2.2.2.1 ls (vr (hP h a i.2.2.1) :: r) h
def x_putI : Prop := pI st fun x r => pR r fun o r => onR o fun a => hk h a = i.2.1 ∧ K i.2.2.2.1 ls r (sI h a i.2.2.1 x)
def x_putZ : Prop := pI st fun x r => pR r fun o r => onR o fun a => hk h a = i.2.1 ∧ b01 x ∧ K i.2.2.2.1 ls r (sI h a i.2.2.1 x)
def x_putP : Prop := pR st fun v r => pR r fun o r => onR o fun a => hk h a = i.2.1 ∧ K i.2.2.2.1 ls r (sP h a i.2.2.1 v)
def x_bin : Prop := pI st fun y r => pI r fun x r => K i.2.2.2.1 ls (vi (bin i.2.1 x y) :: r) h
def x_idiv : Prop := pI st fun y r => pI r fun x r => ¬ y = 0 ∧ K i.2.2.2.1 ls (vi (x / y) :: r) h
def x_irem : Prop := pI st fun y r => pI r fun x r => ¬ y = 0 ∧ K i.2.2.2.1 ls (vi (x - x / y * y) :: r) h
def x_ineg : Prop := pI st fun x r => K i.2.2.2.1 ls (vi (-x) :: r) h
def x_iinc : Prop := getL ls i.2.1 fun v => asI v fun x => K i.2.2.2.1 (ls.set i.2.1 (some (vi (x + Int32.ofInt i.2.2.2.2.1)))) st h
def x_i2l : Prop := pI st fun x r => K i.2.2.2.1 ls (vl x.toInt64 :: r) h
def x_lcmp : Prop := pL st fun y r => pL r fun x r => K i.2.2.2.1 ls (vi (lg_cmp x y) :: r) h
def x_dup : Prop := pR st fun o r => K i.2.2.2.1 ls (vr o :: vr o :: r) h
def x_dup2 : Prop := pI st fun x r => pR r fun o r => K i.2.2.2.1 ls (vi x :: vr o :: vi x :: vr o :: r) h
def x_pop : Prop := pI st fun _ r => K i.2.2.2.1 ls r h
def x_goto : Prop := K i.2.2.1 ls st h
def x_if : Prop := pI st fun x r => br i.2.1 x 0 (K i.2.2.1 ls r h) (K i.2.2.2.1 ls r h)
def x_icmp : Prop := pI st fun y r => pI r fun x r => br i.2.1 x y (K i.2.2.1 ls r h) (K i.2.2.2.1 ls r h)
def x_aeq : Prop := pR st fun y r => pR r fun x r => if x = y then K i.2.2.1 ls r h else K i.2.2.2.1 ls r h
def x_ane : Prop := pR st fun y r => pR r fun x r => if x = y then K i.2.2.2.1 ls r h else K i.2.2.1 ls r h
def x_ifnull : Prop := pR st fun o r => ifN o (K i.2.2.1 ls r h) (K i.2.2.2.1 ls r h)
def x_ifnonnull : Prop := pR st fun o r => ifN o (K i.2.2.2.1 ls r h) (K i.2.2.1 ls r h)
def x_ald : Prop := pI st fun j r => pR r fun o r => onR o fun a => hk h a = i.2.1 ∧ ix j (hLen h a) ∧ K i.2.2.2.1 ls (vi (hI h a j.toNatClampNeg) :: r) h
def x_aald : Prop := pI st fun j r => pR r fun o r => onR o fun a => hk h a = i.2.1 ∧ ix j (hLen h a) ∧ K i.2.2.2.1 ls (vr (hP h a j.toNatClampNeg) :: r) h
def x_lald : Prop := pI st fun j r => pR r fun o r => onR o fun a => hk h a = 13 ∧ ix j (hLen h a) ∧ K i.2.2.2.1 ls (vl (hJ h a j.toNatClampNeg) :: r) h
def x_iast : Prop := pI st fun x r => pI r fun j r => pR r fun o r => onR o fun a => hk h a = 8 ∧ ix j (hLen h a) ∧ K i.2.2.2.1 ls r (sI h a j.toNatClampNeg x)
def x_zast : Prop := pI st fun x r => pI r fun j r => pR r fun o r => onR o fun a => hk h a = 9 ∧ ix j (hLen h a) ∧ b01 x ∧ K i.2.2.2.1 ls r (sI h a j.toNatClampNeg x)
def x_aast : Prop := pR st fun v r => pI r fun j r => pR r fun o r => onR o fun a => hk h a = i.2.1 ∧ ix j (hLen h a) ∧ (∀ b, v = some b → hk h b = i.2.2.1) ∧ K i.2.2.2.1 ls r (sP h a j.toNatClampNeg v)
def x_last : Prop := pL st fun x r => pI r fun j r => pR r fun o r => onR o fun a => hk h a = 13 ∧ ix j (hLen h a) ∧ K i.2.2.2.1 ls r (sJ h a j.toNatClampNeg x)
def x_alen : Prop := pR st fun o r => onR o fun a => (8 ≤ hk h a ∧ hk h a < 15) ∧ K i.2.2.2.1 ls (vi (nI (hLen h a)) :: r) h
def x_new : Prop := hsz h + 1 ≤ lim.1 ∧ hsu h + i.2.2.1 ≤ lim.2 ∧ K i.2.2.2.1 ls (vr (some (hsz h)) :: st) (nw h i.2.1 i.2.2.1)
def x_newarr : Prop := pI st fun n r => 0 ≤ n ∧ n ≤ 100000 ∧ hsz h + 1 ≤ lim.1 ∧ hsu h + n.toNatClampNeg ≤ lim.2 ∧ K i.2.2.2.1 ls (vr (some (hsz h)) :: r) (nw h i.2.1 n.toNatClampNeg)
/-- what comes behind an exception of a callee: the method's own handler, or its caller -/
def hx_to (n : Nat) (h' : AHp) : Prop := match hnd n with
  | none => X n h'
  | some t => ∀ q : Nat, K t ls [vr (some q)] h'
/-- what comes behind an answer, by its kind: none, a number, a reference -/
def rt_to (r : List AV) (v : Option AV) (h' : AHp) : Prop :=
  if i.2.2.2.2.1 = 0 then K i.2.2.2.1 ls r h' else if i.2.2.2.2.1 = 1 then (onI v fun x => K i.2.2.2.1 ls (vi x :: r) h') else (onO v fun o => K i.2.2.2.1 ls (vr o :: r) h')
/-- static -/
def x_calls : Prop := pN i.2.2.1 st [] fun as r => sh r (CALL i.2.1 as h (rt_to K i ls r) (hx_to K X hnd ls))
/-- with a receiver, whose kind stands in the table's place -/
def x_callv : Prop := pN i.2.2.1 st [] fun as r => pR r fun o r => onR o fun a => (∀ q ∈ i.2.2.2.2.2, hk h a = q.2) ∧ sh r (CALL i.2.1 (vr (some a) :: as) h (rt_to K i ls r) (hx_to K X hnd ls))
/-- a constructor of our own, a static of a nest mate: they don't throw -/
def x_calli : Prop := pN i.2.2.1 st [] fun as r => pR r fun o r => onR o fun a => sh r (CALL i.2.1 (vr (some a) :: as) h (rt_to K i ls r) (fun _ _ => False))
def x_calln : Prop := pN i.2.2.1 st [] fun as r => sh r (CALL i.2.1 as h (rt_to K i ls r) (fun _ _ => False))
def x_objinit : Prop := pR st fun o r => onR o fun _ => sh r (K i.2.2.2.1 ls r h)
def x_max : Prop := pI st fun y r => pI r fun x r => sh r (K i.2.2.2.1 ls (vi (if x < y then y else x) :: r) h)
def x_min : Prop := pI st fun y r => pI r fun x r => sh r (K i.2.2.2.1 ls (vi (if x < y then x else y) :: r) h)
def x_iret : Prop := pI st fun x r => r = [] ∧ R (some (vi x)) h
def x_zret : Prop := pI st fun x r => r = [] ∧ b01 x ∧ R (some (vi x)) h
def x_aret : Prop := pR st fun o r => r = [] ∧ R (some (vr o)) h
def x_ret : Prop := st = [] ∧ R none h
def x_switch : Prop := pI st fun x r => swt i.2.2.2.2.2 x i.2.2.1 fun t => K t ls r h
def x_throw : Prop := st = [] ∧ hsz h + 1 ≤ lim.1 ∧ hsu h + 6 ≤ lim.2 ∧ ∀ s u, hsz h ≤ s → s ≤ hsz h + 1 → hsu h ≤ u → u ≤ hsu h + 6 → X i.2.1 (gr h s u)
def exec : Prop :=
  if i.1 < 16 then
    (if i.1 < 8 then
      (if i.1 < 4 then (if i.1 = 0 then x_iload K i ls st h else if i.1 = 1 then x_aload K i ls st h else if i.1 = 2 then x_istore K i ls st h else x_astore K i ls st h)
       else (if i.1 = 4 then x_iconst K i ls st h else if i.1 = 5 then x_null K i ls st h else if i.1 = 6 then x_getI K i ls st h else x_getP K i ls st h))
     else (if i.1 < 12 then (if i.1 = 8 then x_putI K i ls st h else if i.1 = 9 then x_putZ K i ls st h else if i.1 = 10 then x_putP K i ls st h else x_bin K i ls st h)
       else (if i.1 = 12 then x_idiv K i ls st h else if i.1 = 13 then x_irem K i ls st h else if i.1 = 14 then x_ineg K i ls st h else x_iinc K i ls st h)))
  else if i.1 < 32 then
    (if i.1 < 24 then
      (if i.1 < 20 then (if i.1 = 16 then x_goto K i ls st h else if i.1 = 17 then x_if K i ls st h else if i.1 = 18 then x_icmp K i ls st h else x_aeq K i ls st h)
       else (if i.1 = 20 then x_ane K i ls st h else if i.1 = 21 then x_ifnull K i ls st h else if i.1 = 22 then x_ifnonnull K i ls st h else x_ald K i ls st h))
     else (if i.1 < 28 then (if i.1 = 24 then x_aald K i ls st h else if i.1 = 25 then x_iast K i ls st h else if i.1 = 26 then x_zast K i ls st h else x_aast K i ls st h)
       else (if i.1 = 28 then x_alen K i ls st h else if i.1 = 29 then x_dup K i ls st h else if i.1 = 30 then x_dup2 K i ls st h else x_pop K i ls st h)))
  else if i.1 < 48 then
    (if i.1 < 40 then
      (if i.1 < 36 then (if i.1 = 32 then x_calls CALL K X hnd i ls st h else if i.1 = 33 then x_callv CALL K X hnd i ls st h else if i.1 = 34 then x_calli CALL K i ls st h else x_calln CALL K i ls st h)
       else (if i.1 = 36 then x_objinit K i ls st h else if i.1 = 37 then x_max K i ls st h else if i.1 = 38 then x_min K i ls st h else x_new K lim i ls st h))
     else (if i.1 < 44 then (if i.1 = 40 then x_newarr K lim i ls st h else if i.1 = 41 then x_iret R st h else if i.1 = 42 then x_zret R st h else x_aret R st h)
       else (if i.1 = 44 then x_ret R st h else if i.1 = 45 then x_switch K i ls st h else if i.1 = 46 then x_throw X lim i st h else x_i2l K i ls st h)))
  else (if i.1 = 48 then x_lcmp K i ls st h else if i.1 = 49 then x_lald K i ls st h else if i.1 = 50 then x_last K i ls st h else if i.1 = 51 then x_lconst K i ls st h else False)
end EXEC
/-! ===== more may follow than asked ===== -/
theorem onR_mono {o : Option Nat} {f g : Nat → Prop} (h : ∀ a, f a → g a) (hf : onR o f) : onR o g := by cases o with
  | none => exact hf
  | some a => exact h a hf
theorem ifN_mono {o : Option Nat} {A B A' B' : Prop} (h : A → A') (h2 : B → B') (hf : ifN o A B) : ifN o A' B' := by cases o with
  | none => exact h hf
  | some a => exact h2 hf
theorem getL_mono {ls : List (Option AV)} {k : Nat} {f g : AV → Prop} (h : ∀ v, f v → g v) (hf : getL ls k f) : getL ls k g := by
  induction ls generalizing k with
  | nil => exact hf
  | cons v r ih =>
    cases k with
    | zero => cases v with
      | none => exact hf
      | some v => exact h v hf
    | succ k => exact ih (k := k) hf
theorem asI_mono {v : AV} {f g : Int32 → Prop} (h : ∀ v, f v → g v) (hf : asI v f) : asI v g := by
  rcases v with x | o | x
  · exact h x hf
  · exact hf
  · exact hf
theorem asR_mono {v : AV} {f g : Option Nat → Prop} (h : ∀ v, f v → g v) (hf : asR v f) : asR v g := by
  rcases v with x | o | x
  · exact hf
  · exact h o hf
  · exact hf
theorem pA_mono {st : List AV} {f g : AV → List AV → Prop} (h : ∀ v r, f v r → g v r) (hf : pA st f) : pA st g := by
  rcases st with _ | ⟨v, r⟩
  · exact hf
  · exact h v r hf
theorem pI_mono {st : List AV} {f g : Int32 → List AV → Prop} (h : ∀ v r, f v r → g v r) (hf : pI st f) : pI st g := by
  rcases st with _ | ⟨x | o | x, r⟩
  · exact hf
  · exact h x r hf
  · exact hf
  · exact hf
theorem pR_mono {st : List AV} {f g : Option Nat → List AV → Prop} (h : ∀ v r, f v r → g v r) (hf : pR st f) : pR st g := by
  rcases st with _ | ⟨x | o | x, r⟩
  · exact hf
  · exact hf
  · exact h o r hf
  · exact hf
theorem pL_mono {st : List AV} {f g : Int64 → List AV → Prop} (h : ∀ v r, f v r → g v r) (hf : pL st f) : pL st g := by
  rcases st with _ | ⟨x | o | x, r⟩
  · exact hf
  · exact hf
  · exact hf
  · exact h x r hf
theorem pN_mono {n : Nat} {st acc : List AV} {f g : List AV → List AV → Prop} (h : ∀ v r, f v r → g v r) (hf : pN n st acc f) : pN n st acc g := by
  induction n generalizing st acc with
  | zero => cases st <;> exact h _ _ hf
  | succ n ih =>
    rcases st with _ | ⟨x | o | x, r⟩
    · exact hf
    · exact ih (st := r) (acc := vi x :: acc) hf
    · exact ih (st := r) (acc := vr o :: acc) hf
    · exact hf
theorem sh_mono {r : List AV} {P Q : Prop} (h : P → Q) (hf : sh r P) : sh r Q := by
  unfold sh at *
  cases hb : Nat.ble (catS r) 8 with
  | true => rw [hb] at hf; exact h hf
  | false => rw [hb] at hf; exact hf
theorem ite_mono {c : Prop} [Decidable c] {A B A' B' : Prop} (h : A → A') (h2 : B → B') (hf : if c then A else B) : if c then A' else B' := by
  by_cases e : c
  · rw [if_pos e] at hf ⊢; exact h hf
  · rw [if_neg e] at hf ⊢; exact h2 hf
theorem br_mono {k : Nat} {x y : Int32} {A B A' B' : Prop} (h : A → A') (h2 : B → B') (hf : br k x y A B) : br k x y A' B' :=
  ite_mono (ite_mono h h2) (ite_mono (ite_mono h2 h) (ite_mono (ite_mono h h2) (ite_mono (ite_mono h2 h) (ite_mono (ite_mono h h2) (ite_mono h2 h))))) hf
theorem swt_mono {l : List (Int × Nat)} {x : Int32} {d : Nat} {f g : Nat → Prop} (h : ∀ t, f t → g t) (hf : swt l x d f) : swt l x d g := by
  induction l with
  | nil => exact h d hf
  | cons q r ih => exact ite_mono (h _) ih hf
theorem onI_mono {v : Option AV} {f g : Int32 → Prop} (h : ∀ v, f v → g v) (hf : onI v f) : onI v g := by
  rcases v with _ | x | o | x
  · exact hf
  · exact h x hf
  · exact hf
  · exact hf
theorem onO_mono {v : Option AV} {f g : Option Nat → Prop} (h : ∀ v, f v → g v) (hf : onO v f) : onO v g := by
  rcases v with _ | x | o | x
  · exact hf
  · exact hf
  · exact h o hf
  · exact hf
section EXECM
variable {CALL CALL' : CT} {K K' : KT} {R R' : RT} {X X' : XT} {lim : Nat × Nat} {hnd : Nat → Option Nat} {i : Ins} {ls : List (Option AV)} {st : List AV} {h : AHp}
theorem hx_mono (hk : ∀ pc ls st h, K pc ls st h → K' pc ls st h) (hX : ∀ n h, X n h → X' n h) (n : Nat) (h' : AHp) (hf : hx_to K X hnd ls n h') : hx_to K' X' hnd ls n h' := by
  unfold hx_to at *
  split at hf
  · exact hX _ _ hf
  · exact fun q => hk _ _ _ _ (hf q)
theorem rt_mono (hk : ∀ pc ls st h, K pc ls st h → K' pc ls st h) (r : List AV) (v : Option AV) (h' : AHp) (hf : rt_to K i ls r v h') : rt_to K' i ls r v h' := by
  unfold rt_to at *
  split at hf
  · rename_i e; rw [if_pos e]; exact hk _ _ _ _ hf
  · rename_i e; rw [if_neg e]
    split at hf
    · rename_i e; rw [if_pos e]; exact onI_mono (fun _ => hk _ _ _ _) hf
    · rename_i e; rw [if_neg e]; exact onO_mono (fun _ => hk _ _ _ _) hf
theorem exec_mono (hc : ∀ j as h Q Q' Y Y', (∀ v h', Q v h' → Q' v h') → (∀ n h', Y n h' → Y' n h') → CALL j as h Q Y → CALL' j as h Q' Y') (hk : ∀ pc ls st h, K pc ls st h → K' pc ls st h) (hR : ∀ v h, R v h → R' v h) (hX : ∀ n h, X n h → X' n h)
    (hf : exec CALL K R X lim hnd i ls st h) : exec CALL' K' R' X' lim hnd i ls st h := by
  unfold exec at *
  split at hf
  · rename_i e; rw [if_pos e]
    split at hf
    · rename_i e; rw [if_pos e]
      split at hf
      · rename_i e; rw [if_pos e]
        split at hf
        · rename_i e; rw [if_pos e]; exact getL_mono (fun _ => asI_mono fun _ => hk _ _ _ _) hf
        rename_i e; rw [if_neg e]; clear e; split at hf
        · rename_i e; rw [if_pos e]; exact getL_mono (fun _ => asR_mono fun _ => hk _ _ _ _) hf
        rename_i e; rw [if_neg e]; clear e; split at hf
        · rename_i e; rw [if_pos e]; exact pI_mono (fun _ _ => hk _ _ _ _) hf
        · rename_i e; rw [if_neg e]; exact pR_mono (fun _ _ => hk _ _ _ _) hf
      · rename_i e; rw [if_neg e]
        split at hf
        · rename_i e; rw [if_pos e]; exact hk _ _ _ _ hf
        rename_i e; rw [if_neg e]; clear e; split at hf
        · rename_i e; rw [if_pos e]; exact hk _ _ _ _ hf
        rename_i e; rw [if_neg e]; clear e; split at hf
        · rename_i e; rw [if_pos e]; exact pR_mono (fun _ _ => onR_mono fun _ q => ⟨q.1, hk _ _ _ _ q.2⟩) hf
        · rename_i e; rw [if_neg e]; exact pR_mono (fun _ _ => onR_mono fun _ q => ⟨q.1, hk _ _ _ _ q.2⟩) hf
    · rename_i e; rw [if_neg e]
      split at hf
      · rename_i e; rw [if_pos e]
        split at hf
        · rename_i e; rw [if_pos e]; exact pI_mono (fun _ _ => pR_mono fun _ _ => onR_mono fun _ q => ⟨q.1, hk _ _ _ _ q.2⟩) hf
        rename_i e; rw [if_neg e]; clear e; split at hf
        · rename_i e; rw [if_pos e]; exact pI_mono (fun _ _ => pR_mono fun _ _ => onR_mono fun _ q => ⟨q.1, q.2.1, hk _ _ _ _ q.2.2⟩) hf
        rename_i e; rw [if_neg e]; clear e; split at hf
        · rename_i e; rw [if_pos e]; exact pR_mono (fun _ _ => pR_mono fun _ _ => onR_mono fun _ q => ⟨q.1, hk _ _ _ _ q.2⟩) hf
        · rename_i e; rw [if_neg e]; exact pI_mono (fun _ _ => pI_mono fun _ _ => hk _ _ _ _) hf
      · rename_i e; rw [if_neg e]
        split at hf
        · rename_i e; rw [if_pos e]; exact pI_mono (fun _ _ => pI_mono fun _ _ q => ⟨q.1, hk _ _ _ _ q.2⟩) hf
        rename_i e; rw [if_neg e]; clear e; split at hf
        · rename_i e; rw [if_pos e]; exact pI_mono (fun _ _ => pI_mono fun _ _ q => ⟨q.1, hk _ _ _ _ q.2⟩) hf
        rename_i e; rw [if_neg e]; clear e; split at hf
        · rename_i e; rw [if_pos e]; exact pI_mono (fun _ _ => hk _ _ _ _) hf
        · rename_i e; rw [if_neg e]; exact getL_mono (fun _ => asI_mono fun _ => hk _ _ _ _) hf
  rename_i e; rw [if_neg e]; clear e; split at hf
  · rename_i e; rw [if_pos e]
    split at hf
    · rename_i e; rw [if_pos e]
      split at hf
      · rename_i e; rw [if_pos e]
        split at hf
        · rename_i e; rw [if_pos e]; exact hk _ _ _ _ hf
        rename_i e; rw [if_neg e]; clear e; split at hf
        · rename_i e; rw [if_pos e]; exact pI_mono (fun _ _ => br_mono (hk _ _ _ _) (hk _ _ _ _)) hf
        rename_i e; rw [if_neg e]; clear e; split at hf
        · rename_i e; rw [if_pos e]; exact pI_mono (fun _ _ => pI_mono fun _ _ => br_mono (hk _ _ _ _) (hk _ _ _ _)) hf
        · rename_i e; rw [if_neg e]
          exact pR_mono (fun _ _ => pR_mono fun _ _ q => by split at q <;> (rename_i e; first | (rw [if_pos e]; exact hk _ _ _ _ q) | (rw [if_neg e]; exact hk _ _ _ _ q))) hf
      · rename_i e; rw [if_neg e]
        split at hf
        · rename_i e; rw [if_pos e]
          exact pR_mono (fun _ _ => pR_mono fun _ _ q => by split at q <;> (rename_i e; first | (rw [if_pos e]; exact hk _ _ _ _ q) | (rw [if_neg e]; exact hk _ _ _ _ q))) hf
        rename_i e; rw [if_neg e]; clear e; split at hf
        · rename_i e; rw [if_pos e]; exact pR_mono (fun _ _ => ifN_mono (hk _ _ _ _) (hk _ _ _ _)) hf
        rename_i e; rw [if_neg e]; clear e; split at hf
        · rename_i e; rw [if_pos e]; exact pR_mono (fun _ _ => ifN_mono (hk _ _ _ _) (hk _ _ _ _)) hf
        · rename_i e; rw [if_neg e]; exact pI_mono (fun _ _ => pR_mono fun _ _ => onR_mono fun _ q => ⟨q.1, q.2.1, hk _ _ _ _ q.2.2⟩) hf
    · rename_i e; rw [if_neg e]
      split at hf
      · rename_i e; rw [if_pos e]
        split at hf
        · rename_i e; rw [if_pos e]; exact pI_mono (fun _ _ => pR_mono fun _ _ => onR_mono fun _ q => ⟨q.1, q.2.1, hk _ _ _ _ q.2.2⟩) hf
        rename_i e; rw [if_neg e]; clear e; split at hf
        · rename_i e; rw [if_pos e]; exact pI_mono (fun _ _ => pI_mono fun _ _ => pR_mono fun _ _ => onR_mono fun _ q => ⟨q.1, q.2.1, hk _ _ _ _ q.2.2⟩) hf
        rename_i e; rw [if_neg e]; clear e; split at hf
        · rename_i e; rw [if_pos e]; exact pI_mono (fun _ _ => pI_mono fun _ _ => pR_mono fun _ _ => onR_mono fun _ q => ⟨q.1, q.2.1, q.2.2.1, hk _ _ _ _ q.2.2.2⟩) hf
        · rename_i e; rw [if_neg e]; exact pR_mono (fun _ _ => pI_mono fun _ _ => pR_mono fun _ _ => onR_mono fun _ q => ⟨q.1, q.2.1, q.2.2.1, hk _ _ _ _ q.2.2.2⟩) hf
      · rename_i e; rw [if_neg e]
        split at hf
        · rename_i e; rw [if_pos e]; exact pR_mono (fun _ _ => onR_mono fun _ q => ⟨q.1, hk _ _ _ _ q.2⟩) hf
        rename_i e; rw [if_neg e]; clear e; split at hf
        · rename_i e; rw [if_pos e]; exact pR_mono (fun _ _ => hk _ _ _ _) hf
        rename_i e; rw [if_neg e]; clear e; split at hf
        · rename_i e; rw [if_pos e]; exact pI_mono (fun _ _ => pR_mono fun _ _ => hk _ _ _ _) hf
        · rename_i e; rw [if_neg e]; exact pI_mono (fun _ _ => hk _ _ _ _) hf
  rename_i e; rw [if_neg e]; clear e; split at hf
  · rename_i e; rw [if_pos e]
    split at hf
    · rename_i e; rw [if_pos e]
      split at hf
      · rename_i e; rw [if_pos e]
        split at hf
        · rename_i e; rw [if_pos e]; exact pN_mono (fun _ _ => sh_mono (hc _ _ _ _ _ _ _ (rt_mono hk _) (hx_mono hk hX))) hf
        rename_i e; rw [if_neg e]; clear e; split at hf
        · rename_i e; rw [if_pos e]; exact pN_mono (fun _ _ => pR_mono fun _ _ => onR_mono fun _ q => ⟨q.1, sh_mono (hc _ _ _ _ _ _ _ (rt_mono hk _) (hx_mono hk hX)) q.2⟩) hf
        rename_i e; rw [if_neg e]; clear e; split at hf
        · rename_i e; rw [if_pos e]; exact pN_mono (fun _ _ => pR_mono fun _ _ => onR_mono fun _ => sh_mono (hc _ _ _ _ _ _ _ (rt_mono hk _) (fun _ _ h => h))) hf
        · rename_i e; rw [if_neg e]; exact pN_mono (fun _ _ => sh_mono (hc _ _ _ _ _ _ _ (rt_mono hk _) (fun _ _ h => h))) hf
      · rename_i e; rw [if_neg e]
        split at hf
        · rename_i e; rw [if_pos e]; exact pR_mono (fun _ _ => onR_mono fun _ => sh_mono (hk _ _ _ _)) hf
        rename_i e; rw [if_neg e]; clear e; split at hf
        · rename_i e; rw [if_pos e]; exact pI_mono (fun _ _ => pI_mono fun _ _ => sh_mono (hk _ _ _ _)) hf
        rename_i e; rw [if_neg e]; clear e; split at hf
        · rename_i e; rw [if_pos e]; exact pI_mono (fun _ _ => pI_mono fun _ _ => sh_mono (hk _ _ _ _)) hf
        · rename_i e; rw [if_neg e]; exact ⟨hf.1, hf.2.1, hk _ _ _ _ hf.2.2⟩
    · rename_i e; rw [if_neg e]
      split at hf
      · rename_i e; rw [if_pos e]
        split at hf
        · rename_i e; rw [if_pos e]; exact pI_mono (fun _ _ q => ⟨q.1, q.2.1, q.2.2.1, q.2.2.2.1, hk _ _ _ _ q.2.2.2.2⟩) hf
        rename_i e; rw [if_neg e]; clear e; split at hf
        · rename_i e; rw [if_pos e]; exact pI_mono (fun _ _ q => ⟨q.1, hR _ _ q.2⟩) hf
        rename_i e; rw [if_neg e]; clear e; split at hf
        · rename_i e; rw [if_pos e]; exact pI_mono (fun _ _ q => ⟨q.1, q.2.1, hR _ _ q.2.2⟩) hf
        · rename_i e; rw [if_neg e]; exact pR_mono (fun _ _ q => ⟨q.1, hR _ _ q.2⟩) hf
      · rename_i e; rw [if_neg e]
        split at hf
        · rename_i e; rw [if_pos e]; exact ⟨hf.1, hR _ _ hf.2⟩
        rename_i e; rw [if_neg e]; clear e; split at hf
        · rename_i e; rw [if_pos e]; exact pI_mono (fun _ _ => swt_mono fun _ => hk _ _ _ _) hf
        rename_i e; rw [if_neg e]; clear e; split at hf
        · rename_i e; rw [if_pos e]; exact ⟨hf.1, hf.2.1, hf.2.2.1, fun s u h1 h2 h3 h4 => hX _ _ (hf.2.2.2 s u h1 h2 h3 h4)⟩
        · rename_i e; rw [if_neg e]; exact pI_mono (fun _ _ => hk _ _ _ _) hf
  rename_i e; rw [if_neg e]; clear e; split at hf
  · rename_i e; rw [if_pos e]; exact pL_mono (fun _ _ => pL_mono fun _ _ => hk _ _ _ _) hf
  rename_i e; rw [if_neg e]; clear e; split at hf
  · rename_i e; rw [if_pos e]; exact pI_mono (fun _ _ => pR_mono fun _ _ => onR_mono fun _ q => ⟨q.1, q.2.1, hk _ _ _ _ q.2.2⟩) hf
  rename_i e; rw [if_neg e]; clear e; split at hf
  · rename_i e; rw [if_pos e]; exact pL_mono (fun _ _ => pI_mono fun _ _ => pR_mono fun _ _ => onR_mono fun _ q => ⟨q.1, q.2.1, hk _ _ _ _ q.2.2⟩) hf
  rename_i e; rw [if_neg e]; clear e; split at hf
  · rename_i e; rw [if_pos e]; exact hk _ _ _ _ hf
  · exact hf.elim
end EXECM
