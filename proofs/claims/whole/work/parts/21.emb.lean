/-! ===== a run on a part of the heap is a run on the whole of it: the rest stays as it is; the part may lie elsewhere ===== -/
def shO (s : Nat) : Option Nat → Option Nat
  | none => none
  | some a => some (a + s)
def shV (s : Nat) : AV → AV
  | .inl x => .inl x
  | .inr (.inl o) => .inr (.inl (shO s o))
  | .inr (.inr x) => .inr (.inr x)
def shL (s : Nat) : Option AV → Option AV
  | none => none
  | some v => some (shV s v)
/-- the kind of what a run may not touch -/
abbrev kP : Nat := 77777
def emb (s : Nat) (P : Nat → Bool) (h g : AHp) : AHp :=
  ((hsz g + s, hsu g), (fun A => if P A = true then hk h A else hk g (A - s)), (fun A => if P A = true then hLen h A else hLen g (A - s)), (fun A k => if P A = true then hI h A k else hI g (A - s) k), (fun A k => if P A = true then hP h A k else shO s (hP g (A - s) k)), fun A k => if P A = true then hJ h A k else hJ g (A - s) k)
def Fm (s : Nat) (P : Nat → Bool) (g : AHp) : Prop := (∀ A, P A = true → A < hsz g + s) ∧ (∀ A, A < s → P A = true) ∧ ∀ a, P (a + s) = true → hk g a = kP
def ER (s : Nat) (P : Nat → Bool) (h : AHp) (R : RT) : RT := fun v h' => ∃ v0 g', v = shL s v0 ∧ h' = emb s P h g' ∧ Fm s P g' ∧ R v0 g'
def EY (s : Nat) (P : Nat → Bool) (h : AHp) (X : XT) : XT := fun n h' => ∃ g', h' = emb s P h g' ∧ Fm s P g' ∧ X n g'
section EMB
variable {s : Nat} {P : Nat → Bool} {h g : AHp}
theorem shO_inj {x y : Option Nat} (e : shO s x = shO s y) : x = y := by
  cases x with
  | none => cases y with
    | none => rfl
    | some b => cases e
  | some a => cases y with
    | none => cases e
    | some b => have := Option.some.inj e; rw [show a = b by omega]
theorem Fm.free (F : Fm s P g) {a c : Nat} (hc : c < 5000) (e : hk g a = c) : P (a + s) = false := by
  cases q : P (a + s) with
  | false => rfl
  | true => have e2 : hk g a = 77777 := F.2.2 a q; omega
theorem Fm.free' (F : Fm s P g) {a : Nat} (e : hk g a < 15) : P (a + s) = false := F.free (by omega) rfl
theorem emb_k {a : Nat} (f : P (a + s) = false) : hk (emb s P h g) (a + s) = hk g a := by
  show (if P (a + s) = true then hk h (a + s) else hk g (a + s - s)) = _
  rw [f, if_neg (by decide), Nat.add_sub_cancel]
theorem emb_len {a : Nat} (f : P (a + s) = false) : hLen (emb s P h g) (a + s) = hLen g a := by
  show (if P (a + s) = true then hLen h (a + s) else hLen g (a + s - s)) = _
  rw [f, if_neg (by decide), Nat.add_sub_cancel]
theorem emb_I {a k : Nat} (f : P (a + s) = false) : hI (emb s P h g) (a + s) k = hI g a k := by
  show (if P (a + s) = true then hI h (a + s) k else hI g (a + s - s) k) = _
  rw [f, if_neg (by decide), Nat.add_sub_cancel]
theorem emb_P {a k : Nat} (f : P (a + s) = false) : hP (emb s P h g) (a + s) k = shO s (hP g a k) := by
  show (if P (a + s) = true then hP h (a + s) k else shO s (hP g (a + s - s) k)) = _
  rw [f, if_neg (by decide), Nat.add_sub_cancel]
theorem emb_J {a k : Nat} (f : P (a + s) = false) : hJ (emb s P h g) (a + s) k = hJ g a k := by
  show (if P (a + s) = true then hJ h (a + s) k else hJ g (a + s - s) k) = _
  rw [f, if_neg (by decide), Nat.add_sub_cancel]
theorem up2_emb {α : Type} {f0 f : Nat → Nat → α} {a k : Nat} {v : α} (F : Fm s P g) (f1 : P (a + s) = false) : up2 (fun A j => if P A = true then f0 A j else f (A - s) j) (a + s) k v = fun A j => if P A = true then f0 A j else up2 f a k v (A - s) j := by
  funext A j
  show (if A = a + s ∧ j = k then v else if P A = true then f0 A j else f (A - s) j) = if P A = true then f0 A j else if A - s = a ∧ j = k then v else f (A - s) j
  by_cases e : A = a + s
  · have fA : ¬ P A = true := by rw [e, f1]; decide
    have eA : A - s = a := by omega
    rw [if_neg fA, if_neg fA, eA]
    by_cases e2 : j = k
    · rw [if_pos (⟨e, e2⟩ : A = a + s ∧ j = k), if_pos (⟨rfl, e2⟩ : a = a ∧ j = k)]
    · rw [if_neg (fun q : A = a + s ∧ j = k => e2 q.2), if_neg (fun q : a = a ∧ j = k => e2 q.2)]
  · rw [if_neg (fun q : A = a + s ∧ j = k => e q.1)]
    by_cases p : P A = true
    · rw [if_pos p, if_pos p]
    · rw [if_neg p, if_neg p, if_neg]
      intro q
      have : ¬ A < s := fun z => p (F.2.1 A z)
      exact e (by omega)
theorem emb_sI {a k : Nat} {v : Int32} (F : Fm s P g) (f : P (a + s) = false) : sI (emb s P h g) (a + s) k v = emb s P h (sI g a k v) := by
  show (_, _, _, up2 (fun A j => if P A = true then hI h A j else hI g (A - s) j) (a + s) k v, _, _) = _
  rw [up2_emb F f]; rfl
theorem emb_sJ {a k : Nat} {v : Int64} (F : Fm s P g) (f : P (a + s) = false) : sJ (emb s P h g) (a + s) k v = emb s P h (sJ g a k v) := by
  show (_, _, _, _, _, up2 (fun A j => if P A = true then hJ h A j else hJ g (A - s) j) (a + s) k v) = _
  rw [up2_emb F f]; rfl
theorem emb_sP {a k : Nat} {v : Option Nat} (F : Fm s P g) (f : P (a + s) = false) : sP (emb s P h g) (a + s) k (shO s v) = emb s P h (sP g a k v) := by
  show (_, _, _, _, up2 (fun A j => if P A = true then hP h A j else shO s (hP g (A - s) j)) (a + s) k (shO s v), _) = _
  rw [up2_emb (f0 := hP h) (f := fun b i => shO s (hP g b i)) F f]
  have : up2 (fun b i => shO s (hP g b i)) a k (shO s v) = fun b i => shO s (up2 (hP g) a k v b i) := by
    funext b i; unfold up2; split <;> rfl
  rw [this]; rfl
theorem Fm.sI (F : Fm s P g) {a k : Nat} {v : Int32} : Fm s P (sI g a k v) := F
theorem Fm.sJ (F : Fm s P g) {a k : Nat} {v : Int64} : Fm s P (sJ g a k v) := F
theorem Fm.sP (F : Fm s P g) {a k : Nat} {v : Option Nat} : Fm s P (sP g a k v) := F
theorem Fm.nw (F : Fm s P g) {c n : Nat} : Fm s P (nw g c n) := by
  refine ⟨fun A p => ?_, F.2.1, fun a p => ?_⟩
  · have := F.1 A p
    show A < hsz g + 1 + s
    omega
  · show up1 (hk g) (hsz g) c a = kP
    unfold up1
    rw [if_neg]
    · exact F.2.2 a p
    · intro e; have := F.1 _ p; omega
theorem Fm.gr (F : Fm s P g) {z u : Nat} (hz : hsz g ≤ z) : Fm s P (gr g z u) := by
  refine ⟨fun A p => ?_, F.2.1, fun a p => ?_⟩
  · have := F.1 A p
    show A < z + s
    omega
  · show (if a < hsz g then hk g a else 99) = kP
    rw [if_pos]
    · exact F.2.2 a p
    · have := F.1 _ p; omega
theorem emb_nw (F : Fm s P g) {c n : Nat} : nw (emb s P h g) c n = emb s P h (nw g c n) := by
  have hp : P (hsz g + s) = false := by
    cases q : P (hsz g + s) with
    | false => rfl
    | true => have := F.1 _ q; omega
  have key : ∀ {α : Type} (f0 f : Nat → α) (v : α), up1 (fun A => if P A = true then f0 A else f (A - s)) (hsz g + s) v = fun A => if P A = true then f0 A else up1 f (hsz g) v (A - s) := by
    intro α f0 f v
    funext A
    show (if A = hsz g + s then v else if P A = true then f0 A else f (A - s)) = if P A = true then f0 A else if A - s = hsz g then v else f (A - s)
    by_cases e : A = hsz g + s
    · have fA : ¬ P A = true := by rw [e, hp]; decide
      rw [if_pos e, if_neg fA, if_pos (by omega)]
    · rw [if_neg e]
      by_cases p : P A = true
      · rw [if_pos p, if_pos p]
      · rw [if_neg p, if_neg p, if_neg]
        have : ¬ A < s := fun z => p (F.2.1 A z)
        omega
  have key2 : ∀ {α : Type} (f0 f : Nat → Nat → α) (v : α), cl2 (fun A j => if P A = true then f0 A j else f (A - s) j) (hsz g + s) v = fun A j => if P A = true then f0 A j else cl2 f (hsz g) v (A - s) j := by
    intro α f0 f v
    funext A j
    show (if A = hsz g + s then v else if P A = true then f0 A j else f (A - s) j) = if P A = true then f0 A j else if A - s = hsz g then v else f (A - s) j
    by_cases e : A = hsz g + s
    · have fA : ¬ P A = true := by rw [e, hp]; decide
      rw [if_pos e, if_neg fA, if_pos (by omega)]
    · rw [if_neg e]
      by_cases p : P A = true
      · rw [if_pos p, if_pos p]
      · rw [if_neg p, if_neg p, if_neg]
        have : ¬ A < s := fun z => p (F.2.1 A z)
        omega
  show ((hsz g + s + 1, hsu g + n), up1 (fun A => if P A = true then hk h A else hk g (A - s)) (hsz g + s) c, up1 (fun A => if P A = true then hLen h A else hLen g (A - s)) (hsz g + s) n, cl2 (fun A j => if P A = true then hI h A j else hI g (A - s) j) (hsz g + s) 0, cl2 (fun A j => if P A = true then hP h A j else shO s (hP g (A - s) j)) (hsz g + s) none, cl2 (fun A j => if P A = true then hJ h A j else hJ g (A - s) j) (hsz g + s) 0) = _
  rw [key, key, key2, key2 (hP h) (fun b i => shO s (hP g b i)) none, key2]
  have e1 : hsz g + s + 1 = hsz g + 1 + s := by omega
  have e2 : cl2 (fun b i => shO s (hP g b i)) (hsz g) none = fun b i => shO s (cl2 (hP g) (hsz g) none b i) := by
    funext b i; unfold cl2; split <;> rfl
  rw [e1, e2]; rfl
theorem emb_gr (F : Fm s P g) {z u : Nat} : gr (emb s P h g) (z + s) u = emb s P h (gr g z u) := by
  have : (fun A => if A < hsz g + s then (if P A = true then hk h A else hk g (A - s)) else 99) = fun A => if P A = true then hk h A else (if A - s < hsz g then hk g (A - s) else 99) := by
    funext A
    by_cases p : P A = true
    · rw [if_pos (F.1 A p), if_pos p, if_pos p]
    · have : ¬ A < s := fun z => p (F.2.1 A z)
      rw [if_neg p, if_neg p]
      by_cases e : A < hsz g + s
      · rw [if_pos e, if_pos (by omega)]
      · rw [if_neg e, if_neg (by omega)]
  show ((z + s, u), (fun A => if A < hsz g + s then (if P A = true then hk h A else hk g (A - s)) else 99), _, _, _, _) = _
  rw [this]; rfl
/-! the combinators -/
theorem onR_e {o : Option Nat} {f f' : Nat → Prop} (q : ∀ a, f a → f' (a + s)) (hf : onR o f) : onR (shO s o) f' := by cases o with
  | none => exact hf
  | some a => exact q a hf
theorem ifN_e {o : Option Nat} {A B A' B' : Prop} (q : A → A') (q2 : B → B') (hf : ifN o A B) : ifN (shO s o) A' B' := by cases o with
  | none => exact q hf
  | some a => exact q2 hf
theorem getL_e {ls : List (Option AV)} {k : Nat} {f f' : AV → Prop} (q : ∀ v, f v → f' (shV s v)) (hf : getL ls k f) : getL (ls.map (shL s)) k f' := by
  induction ls generalizing k with
  | nil => exact hf
  | cons v r ih =>
    cases k with
    | zero => cases v with
      | none => exact hf
      | some v => exact q v hf
    | succ k => exact ih (k := k) hf
theorem asI_e {v : AV} {f f' : Int32 → Prop} (q : ∀ v, f v → f' v) (hf : asI v f) : asI (shV s v) f' := by
  rcases v with x | o | x
  · exact q x hf
  · exact hf
  · exact hf
theorem asR_e {v : AV} {f f' : Option Nat → Prop} (q : ∀ v, f v → f' (shO s v)) (hf : asR v f) : asR (shV s v) f' := by
  rcases v with x | o | x
  · exact hf
  · exact q o hf
  · exact hf
theorem pI_e {st : List AV} {f f' : Int32 → List AV → Prop} (q : ∀ v r, f v r → f' v (r.map (shV s))) (hf : pI st f) : pI (st.map (shV s)) f' := by
  rcases st with _ | ⟨x | o | x, r⟩
  · exact hf
  · exact q x r hf
  · exact hf
  · exact hf
theorem pR_e {st : List AV} {f f' : Option Nat → List AV → Prop} (q : ∀ v r, f v r → f' (shO s v) (r.map (shV s))) (hf : pR st f) : pR (st.map (shV s)) f' := by
  rcases st with _ | ⟨x | o | x, r⟩
  · exact hf
  · exact hf
  · exact q o r hf
  · exact hf
theorem pL_e {st : List AV} {f f' : Int64 → List AV → Prop} (q : ∀ v r, f v r → f' v (r.map (shV s))) (hf : pL st f) : pL (st.map (shV s)) f' := by
  rcases st with _ | ⟨x | o | x, r⟩
  · exact hf
  · exact hf
  · exact hf
  · exact q x r hf
theorem pN_e {n : Nat} {st acc : List AV} {f f' : List AV → List AV → Prop} (q : ∀ v r, f v r → f' (v.map (shV s)) (r.map (shV s))) (hf : pN n st acc f) : pN n (st.map (shV s)) (acc.map (shV s)) f' := by
  induction n generalizing st acc with
  | zero => cases st <;> exact q _ _ hf
  | succ n ih =>
    rcases st with _ | ⟨x | o | x, r⟩
    · exact hf
    · exact ih (st := r) (acc := vi x :: acc) hf
    · exact ih (st := r) (acc := vr o :: acc) hf
    · exact hf
theorem catS_e (r : List AV) : catS (r.map (shV s)) = catS r := by
  induction r with
  | nil => rfl
  | cons v r ih =>
    rcases v with x | o | x
    · show 1 + catS (r.map (shV s)) = 1 + catS r; rw [ih]
    · show 1 + catS (r.map (shV s)) = 1 + catS r; rw [ih]
    · show 2 + catS (r.map (shV s)) = 2 + catS r; rw [ih]
theorem sh_e {r : List AV} {A B : Prop} (q : A → B) (hf : sh r A) : sh (r.map (shV s)) B := by
  unfold sh at *
  rw [catS_e]
  cases hb : Nat.ble (catS r) 8 with
  | true => rw [hb] at hf; exact q hf
  | false => rw [hb] at hf; exact hf
theorem onI_e {v : Option AV} {f f' : Int32 → Prop} (q : ∀ v, f v → f' v) (hf : onI v f) : onI (shL s v) f' := by
  rcases v with _ | x | o | x
  · exact hf
  · exact q x hf
  · exact hf
  · exact hf
theorem onO_e {v : Option AV} {f f' : Option Nat → Prop} (q : ∀ v, f v → f' (shO s v)) (hf : onO v f) : onO (shL s v) f' := by
  rcases v with _ | x | o | x
  · exact hf
  · exact hf
  · exact q o hf
  · exact hf
theorem set_e (ls : List (Option AV)) (k : Nat) (v : AV) : (ls.set k (some v)).map (shL s) = (ls.map (shL s)).set k (some (shV s v)) := by
  rw [List.map_set]; rfl

variable {CALL CALL' : CT} {K K' : KT} {R R' : RT} {X X' : XT} {lim lim' : Nat × Nat} {hnd : Nat → Option Nat} {i : Ins} {ls : List (Option AV)} {st : List AV}
theorem rt_e (hK : ∀ pc ls st g, Fm s P g → K pc ls st g → K' pc (ls.map (shL s)) (st.map (shV s)) (emb s P h g)) (r : List AV) (v : Option AV) (h' : AHp) (hf : ER s P h (rt_to K i ls r) v h') : rt_to K' i (ls.map (shL s)) (r.map (shV s)) v h' := by
  obtain ⟨v0, g', rfl, rfl, F, hf⟩ := hf
  unfold rt_to at *
  split at hf
  · rename_i e; rw [if_pos e]; exact hK _ _ _ _ F hf
  · rename_i e; rw [if_neg e]
    split at hf
    · rename_i e; rw [if_pos e]; exact onI_e (fun x q => hK _ _ (vi x :: r) _ F q) hf
    · rename_i e; rw [if_neg e]; exact onO_e (fun o q => hK _ _ (vr o :: r) _ F q) hf
theorem hx_e (hs : s = 0 ∨ ∀ n, hnd n = none) (hK : ∀ pc ls st g, Fm s P g → K pc ls st g → K' pc (ls.map (shL s)) (st.map (shV s)) (emb s P h g)) (hX : ∀ n g, Fm s P g → X n g → X' n (emb s P h g)) (n : Nat) (h' : AHp) (hf : EY s P h (hx_to K X hnd ls) n h') : hx_to K' X' hnd (ls.map (shL s)) n h' := by
  obtain ⟨g', rfl, F, hf⟩ := hf
  unfold hx_to at *
  split at hf
  · exact hX _ _ F hf
  · rename_i t e
    rcases hs with rfl | hs
    · intro q; exact hK _ _ [vr (some q)] _ F (hf q)
    · rw [hs n] at e; cases e
theorem br_e {k : Nat} {x y : Int32} {A B A' B' : Prop} (q : A → A') (q2 : B → B') (hf : br k x y A B) : br k x y A' B' := br_mono q q2 hf
/-- one instruction -/
theorem exec_e (h1 : i.2.1 < 5000) (h2 : i.2.2.1 < 5000) (h33 : ∀ z ∈ i.2.2.2.2.2, z.2 < 5000) (hl1 : lim'.1 + s ≤ lim.1) (hl2 : lim'.2 ≤ lim.2) (hs : s = 0 ∨ ∀ n, hnd n = none)
    (hc : ∀ as g Q Y Q' Y', Fm s P g → (∀ v h', ER s P h Q v h' → Q' v h') → (∀ n h', EY s P h Y n h' → Y' n h') → 32 ≤ i.1 → i.1 < 36 → CALL i.2.1 as g Q Y → CALL' i.2.1 (as.map (shV s)) (emb s P h g) Q' Y')
    (hK : ∀ pc ls st g, Fm s P g → K pc ls st g → K' pc (ls.map (shL s)) (st.map (shV s)) (emb s P h g)) (hR : ∀ v g, Fm s P g → R v g → R' (shL s v) (emb s P h g)) (hX : ∀ n g, Fm s P g → X n g → X' n (emb s P h g)) (F : Fm s P g)
    (hf : exec CALL K R X lim' hnd i ls st g) : exec CALL' K' R' X' lim hnd i (ls.map (shL s)) (st.map (shV s)) (emb s P h g) := by
  unfold exec at *
  split at hf
  · rename_i e; rw [if_pos e]
    split at hf
    · rename_i e; rw [if_pos e]
      split at hf
      · rename_i e; rw [if_pos e]
        split at hf
        · rename_i e; rw [if_pos e]
          exact getL_e (fun v => asI_e fun x q => hK _ _ (vi x :: st) _ F q) hf
        rename_i e; rw [if_neg e]
        split at hf
        · rename_i e; rw [if_pos e]
          exact getL_e (fun v => asR_e fun x q => hK _ _ (vr x :: st) _ F q) hf
        rename_i e; rw [if_neg e]
        split at hf
        · rename_i e; rw [if_pos e]
          exact pI_e (fun x r q => by have := hK _ _ _ _ F q; rw [set_e] at this; exact this) hf
        rename_i e; rw [if_neg e]
        exact pR_e (fun x r q => by have := hK _ _ _ _ F q; rw [set_e] at this; exact this) hf
      rename_i e; rw [if_neg e]
      split at hf
      · rename_i e; rw [if_pos e]
        exact hK _ _ (vi _ :: st) _ F hf
      rename_i e; rw [if_neg e]
      split at hf
      · rename_i e; rw [if_pos e]
        exact hK _ _ (vr none :: st) _ F hf
      rename_i e; rw [if_neg e]
      split at hf
      · rename_i e; rw [if_pos e]
        exact pR_e (fun o r => onR_e fun a q => by have f := F.free h1 q.1; refine ⟨(emb_k f).trans q.1, ?_⟩; rw [emb_I f]; exact hK _ _ (vi _ :: r) _ F q.2) hf
      rename_i e; rw [if_neg e]
      exact pR_e (fun o r => onR_e fun a q => by have f := F.free h1 q.1; refine ⟨(emb_k f).trans q.1, ?_⟩; rw [emb_P f]; exact hK _ _ (vr _ :: r) _ F q.2) hf
    rename_i e; rw [if_neg e]
    split at hf
    · rename_i e; rw [if_pos e]
      split at hf
      · rename_i e; rw [if_pos e]
        exact pI_e (fun x r => pR_e fun o r => onR_e fun a q => by have f := F.free h1 q.1; refine ⟨(emb_k f).trans q.1, ?_⟩; rw [emb_sI F f]; exact hK _ _ r _ F.sI q.2) hf
      rename_i e; rw [if_neg e]
      split at hf
      · rename_i e; rw [if_pos e]
        exact pI_e (fun x r => pR_e fun o r => onR_e fun a q => by have f := F.free h1 q.1; refine ⟨(emb_k f).trans q.1, q.2.1, ?_⟩; rw [emb_sI F f]; exact hK _ _ r _ F.sI q.2.2) hf
      rename_i e; rw [if_neg e]
      split at hf
      · rename_i e; rw [if_pos e]
        exact pR_e (fun x r => pR_e fun o r => onR_e fun a q => by have f := F.free h1 q.1; refine ⟨(emb_k f).trans q.1, ?_⟩; rw [emb_sP F f]; exact hK _ _ r _ F.sP q.2) hf
      rename_i e; rw [if_neg e]
      exact pI_e (fun x r => pI_e fun y r q => hK _ _ (vi _ :: r) _ F q) hf
    rename_i e; rw [if_neg e]
    split at hf
    · rename_i e; rw [if_pos e]
      exact pI_e (fun x r => pI_e fun y r q => ⟨q.1, hK _ _ (vi _ :: r) _ F q.2⟩) hf
    rename_i e; rw [if_neg e]
    split at hf
    · rename_i e; rw [if_pos e]
      exact pI_e (fun x r => pI_e fun y r q => ⟨q.1, hK _ _ (vi _ :: r) _ F q.2⟩) hf
    rename_i e; rw [if_neg e]
    split at hf
    · rename_i e; rw [if_pos e]
      exact pI_e (fun x r q => hK _ _ (vi _ :: r) _ F q) hf
    rename_i e; rw [if_neg e]
    exact getL_e (fun v => asI_e fun x q => by have := hK _ _ _ _ F q; rw [set_e] at this; exact this) hf
  rename_i e; rw [if_neg e]
  split at hf
  · rename_i e; rw [if_pos e]
    split at hf
    · rename_i e; rw [if_pos e]
      split at hf
      · rename_i e; rw [if_pos e]
        split at hf
        · rename_i e; rw [if_pos e]
          exact hK _ _ _ _ F hf
        rename_i e; rw [if_neg e]
        split at hf
        · rename_i e; rw [if_pos e]
          exact pI_e (fun x r => br_mono (hK _ _ r _ F) (hK _ _ r _ F)) hf
        rename_i e; rw [if_neg e]
        split at hf
        · rename_i e; rw [if_pos e]
          exact pI_e (fun x r => pI_e fun y r => br_mono (hK _ _ r _ F) (hK _ _ r _ F)) hf
        rename_i e; rw [if_neg e]
        exact pR_e (fun x r => pR_e fun y r q => by split at q <;> (rename_i e; first | (rw [if_pos (congrArg (shO s) e)]; exact hK _ _ r _ F q) | (rw [if_neg (fun z => e (shO_inj z))]; exact hK _ _ r _ F q))) hf
      rename_i e; rw [if_neg e]
      split at hf
      · rename_i e; rw [if_pos e]
        exact pR_e (fun x r => pR_e fun y r q => by split at q <;> (rename_i e; first | (rw [if_pos (congrArg (shO s) e)]; exact hK _ _ r _ F q) | (rw [if_neg (fun z => e (shO_inj z))]; exact hK _ _ r _ F q))) hf
      rename_i e; rw [if_neg e]
      split at hf
      · rename_i e; rw [if_pos e]
        exact pR_e (fun x r => ifN_e (hK _ _ r _ F) (hK _ _ r _ F)) hf
      rename_i e; rw [if_neg e]
      split at hf
      · rename_i e; rw [if_pos e]
        exact pR_e (fun x r => ifN_e (hK _ _ r _ F) (hK _ _ r _ F)) hf
      rename_i e; rw [if_neg e]
      exact pI_e (fun x r => pR_e fun o r => onR_e fun a q => by have f := F.free h1 q.1; refine ⟨(emb_k f).trans q.1, by rw [emb_len f]; exact q.2.1, ?_⟩; rw [emb_I f]; exact hK _ _ (vi _ :: r) _ F q.2.2) hf
    rename_i e; rw [if_neg e]
    split at hf
    · rename_i e; rw [if_pos e]
      split at hf
      · rename_i e; rw [if_pos e]
        exact pI_e (fun x r => pR_e fun o r => onR_e fun a q => by have f := F.free h1 q.1; refine ⟨(emb_k f).trans q.1, by rw [emb_len f]; exact q.2.1, ?_⟩; rw [emb_P f]; exact hK _ _ (vr _ :: r) _ F q.2.2) hf
      rename_i e; rw [if_neg e]
      split at hf
      · rename_i e; rw [if_pos e]
        exact pI_e (fun v r => pI_e fun x r => pR_e fun o r => onR_e fun a q => by have f := F.free (by decide) q.1; refine ⟨(emb_k f).trans q.1, by rw [emb_len f]; exact q.2.1, ?_⟩; rw [emb_sI F f]; exact hK _ _ r _ F.sI q.2.2) hf
      rename_i e; rw [if_neg e]
      split at hf
      · rename_i e; rw [if_pos e]
        exact pI_e (fun v r => pI_e fun x r => pR_e fun o r => onR_e fun a q => by have f := F.free (by decide) q.1; refine ⟨(emb_k f).trans q.1, by rw [emb_len f]; exact q.2.1, q.2.2.1, ?_⟩; rw [emb_sI F f]; exact hK _ _ r _ F.sI q.2.2.2) hf
      rename_i e; rw [if_neg e]
      exact pR_e (fun v r => pI_e fun x r => pR_e fun o r => onR_e fun a q => by
          have f := F.free h1 q.1
          refine ⟨(emb_k f).trans q.1, by rw [emb_len f]; exact q.2.1, fun b eb => ?_, ?_⟩
          · cases v with
            | none => cases eb
            | some b0 =>
              cases Option.some.inj eb
              have e0 := q.2.2.1 b0 rfl
              exact (emb_k (F.free h2 e0)).trans e0
          · rw [emb_sP F f]; exact hK _ _ r _ F.sP q.2.2.2) hf
    rename_i e; rw [if_neg e]
    split at hf
    · rename_i e; rw [if_pos e]
      exact pR_e (fun o r => onR_e fun a q => by have f := F.free' q.1.2; refine ⟨by rw [emb_k f]; exact q.1, ?_⟩; rw [emb_len f]; exact hK _ _ (vi _ :: r) _ F q.2) hf
    rename_i e; rw [if_neg e]
    split at hf
    · rename_i e; rw [if_pos e]
      exact pR_e (fun o r q => hK _ _ (vr o :: vr o :: r) _ F q) hf
    rename_i e; rw [if_neg e]
    split at hf
    · rename_i e; rw [if_pos e]
      exact pI_e (fun x r => pR_e fun o r q => hK _ _ (vi x :: vr o :: vi x :: vr o :: r) _ F q) hf
    rename_i e; rw [if_neg e]
    exact pI_e (fun x r q => hK _ _ r _ F q) hf
  rename_i e; rw [if_neg e]
  split at hf
  · rename_i e; rw [if_pos e]
    split at hf
    · rename_i e; rw [if_pos e]
      split at hf
      · rename_i e; rw [if_pos e]
        split at hf
        · rename_i e; rw [if_pos e]
          exact pN_e (acc := []) (fun as r => sh_e fun q => hc _ _ _ _ _ _ F (rt_e hK r) (hx_e hs hK hX) (by omega) (by omega) q) hf
        rename_i e; rw [if_neg e]
        split at hf
        · rename_i e; rw [if_pos e]
          exact pN_e (acc := []) (fun as r => pR_e fun o r => onR_e fun a q => ⟨fun z hz => by
                  have e0 := q.1 z hz
                  by_cases hp : P (a + s) = true
                  · exact absurd (F.2.2 a hp) (fun y => by have y2 : hk g a = 77777 := y; have := h33 z hz; omega)
                  · have f : P (a + s) = false := by cases hb : P (a + s) with
                      | false => rfl
                      | true => exact absurd hb hp
                    exact (emb_k f).trans e0, sh_e (fun q => hc (vr (some a) :: as) _ _ _ _ _ F (rt_e hK r) (hx_e hs hK hX) (by omega) (by omega) q) q.2⟩) hf
        rename_i e; rw [if_neg e]
        split at hf
        · rename_i e; rw [if_pos e]
          exact pN_e (acc := []) (fun as r => pR_e fun o r => onR_e fun a => sh_e fun q => hc (vr (some a) :: as) _ _ _ _ _ F (rt_e hK r) (fun n h' z => by obtain ⟨_, _, _, z⟩ := z; exact z.elim) (by omega) (by omega) q) hf
        rename_i e; rw [if_neg e]
        exact pN_e (acc := []) (fun as r => sh_e fun q => hc _ _ _ _ _ _ F (rt_e hK r) (fun n h' z => by obtain ⟨_, _, _, z⟩ := z; exact z.elim) (by omega) (by omega) q) hf
      rename_i e; rw [if_neg e]
      split at hf
      · rename_i e; rw [if_pos e]
        exact pR_e (fun o r => onR_e fun a => sh_e (hK _ _ r _ F)) hf
      rename_i e; rw [if_neg e]
      split at hf
      · rename_i e; rw [if_pos e]
        exact pI_e (fun x r => pI_e fun y r => sh_e (hK _ _ (vi _ :: r) _ F)) hf
      rename_i e; rw [if_neg e]
      split at hf
      · rename_i e; rw [if_pos e]
        exact pI_e (fun x r => pI_e fun y r => sh_e (hK _ _ (vi _ :: r) _ F)) hf
      rename_i e; rw [if_neg e]
      refine (⟨?_, ?_, ?_⟩ : hsz g + s + 1 ≤ lim.1 ∧ hsu g + i.2.2.1 ≤ lim.2 ∧ K' i.2.2.2.1 (ls.map (shL s)) (vr (some (hsz g + s)) :: st.map (shV s)) (nw (emb s P h g) i.2.1 i.2.2.1))
      · show hsz g + s + 1 ≤ lim.1; have := hf.1; omega
      · exact Nat.le_trans hf.2.1 hl2
      · rw [emb_nw F]; exact hK _ _ (vr (some (hsz g)) :: st) _ F.nw hf.2.2
    rename_i e; rw [if_neg e]
    split at hf
    · rename_i e; rw [if_pos e]
      split at hf
      · rename_i e; rw [if_pos e]
        exact pI_e (fun x r q => ⟨q.1, q.2.1, by show hsz g + s + 1 ≤ lim.1; have := q.2.2.1; omega, Nat.le_trans q.2.2.2.1 hl2, by rw [emb_nw F]; exact hK _ _ (vr (some (hsz g)) :: r) _ F.nw q.2.2.2.2⟩) hf
      rename_i e; rw [if_neg e]
      split at hf
      · rename_i e; rw [if_pos e]
        exact pI_e (fun x r q => ⟨by rw [q.1]; rfl, hR (some (vi x)) _ F q.2⟩) hf
      rename_i e; rw [if_neg e]
      split at hf
      · rename_i e; rw [if_pos e]
        exact pI_e (fun x r q => ⟨by rw [q.1]; rfl, q.2.1, hR (some (vi x)) _ F q.2.2⟩) hf
      rename_i e; rw [if_neg e]
      exact pR_e (fun x r q => ⟨by rw [q.1]; rfl, hR (some (vr x)) _ F q.2⟩) hf
    rename_i e; rw [if_neg e]
    split at hf
    · rename_i e; rw [if_pos e]
      exact ⟨by rw [hf.1]; rfl, hR none _ F hf.2⟩
    rename_i e; rw [if_neg e]
    split at hf
    · rename_i e; rw [if_pos e]
      exact pI_e (fun x r => swt_mono fun _ q => hK _ _ r _ F q) hf
    rename_i e; rw [if_neg e]
    split at hf
    · rename_i e; rw [if_pos e]
      refine ⟨by rw [hf.1]; rfl, ?_, Nat.le_trans hf.2.2.1 hl2, fun z u q1 q2 q3 q4 => ?_⟩
      · show hsz g + s + 1 ≤ lim.1; have := hf.2.1; omega
      · have q1 : hsz g + s ≤ z := q1
        have q2 : z ≤ hsz g + s + 1 := q2
        obtain ⟨y, rfl⟩ : ∃ y, z = y + s := ⟨z - s, by omega⟩
        rw [emb_gr F]
        exact hX _ _ (F.gr (by omega)) (hf.2.2.2 y u (by omega) (by omega) q3 q4)
    rename_i e; rw [if_neg e]
    exact pI_e (fun x r q => hK _ _ (vl _ :: r) _ F q) hf
  rename_i e; rw [if_neg e]
  split at hf
  · rename_i e; rw [if_pos e]
    exact pL_e (fun x r => pL_e fun y r q => hK _ _ (vi _ :: r) _ F q) hf
  rename_i e; rw [if_neg e]
  split at hf
  · rename_i e; rw [if_pos e]
    exact pI_e (fun x r => pR_e fun o r => onR_e fun a q => by have f := F.free (by decide) q.1; refine ⟨(emb_k f).trans q.1, by rw [emb_len f]; exact q.2.1, ?_⟩; rw [emb_J f]; exact hK _ _ (vl _ :: r) _ F q.2.2) hf
  rename_i e; rw [if_neg e]
  split at hf
  · rename_i e; rw [if_pos e]
    exact pL_e (fun v r => pI_e fun x r => pR_e fun o r => onR_e fun a q => by have f := F.free (by decide) q.1; refine ⟨(emb_k f).trans q.1, by rw [emb_len f]; exact q.2.1, ?_⟩; rw [emb_sJ F f]; exact hK _ _ r _ F.sJ q.2.2) hf
  rename_i e; rw [if_neg e]
  split at hf
  · rename_i e; rw [if_pos e]
    exact hK _ _ (vl _ :: st) _ F hf
  rename_i e; rw [if_neg e]
  exact hf.elim
end EMB
theorem lkl_all {Q : Ins → Bool} (hb : Q bad = true) : ∀ (l : List (Nat × Ins)) (pc : Nat), (l.all fun q => Q q.2) = true → Q (lkl l pc) = true := by
  intro l
  induction l with
  | nil => intro pc _; exact hb
  | cons q r ih =>
    intro pc hq
    rw [List.all_cons, Bool.and_eq_true] at hq
    unfold lkl
    cases Nat.beq q.1 pc with
    | true => exact hq.1
    | false => exact ih pc hq.2
theorem lkc_all {Q : Ins → Bool} (hb : Q bad = true) : ∀ (l : List (Nat × List (Nat × Ins))) (pc : Nat), (l.all fun q => q.2.all fun q => Q q.2) = true → Q (lkc l pc) = true := by
  intro l
  induction l with
  | nil => intro pc _; exact hb
  | cons q r ih =>
    intro pc hq
    rw [List.all_cons, Bool.and_eq_true] at hq
    unfold lkc
    cases Nat.blt pc q.1 with
    | true => exact lkl_all hb _ _ hq.1
    | false => exact ih pc hq.2
def insOK (mod : Bool) (i : Ins) : Bool := decide (i.2.1 < 5000) && decide (i.2.2.1 < 5000) && (i.2.2.2.2.2.all fun z => decide (z.2 < 5000)) && (!mod || !(decide (32 ≤ i.1) && decide (i.1 < 36)) || Nat.beq (mown i.2.1) 7)
set_option maxRecDepth 100000 in
theorem tab_ok : ((List.range 274).all fun j => (ktab.getD j []).all fun q => q.2.all fun q => insOK (Nat.beq (mown j) 7) q.2) = true := by decide +kernel
set_option maxRecDepth 100000 in
theorem law_ok : (k_La_law.all fun q => q.2.all fun q => insOK false q.2) = true := by decide +kernel
set_option maxRecDepth 100000 in
theorem hof_ok : ((List.range 274).all fun j => !(Nat.beq (mown j) 7) || (hof j).isEmpty) = true := by decide +kernel
theorem ktab_lenE : ktab.length = 274 := by decide +kernel
theorem mOw_len : mOw.length = 274 := by decide +kernel
theorem mown_big {j : Nat} (hj : 274 ≤ j) : mown j ≠ 7 := by
  unfold mown
  cases Nat.beq j 300 with
  | true => exact (by decide : (8 : Nat) ≠ 7)
  | false =>
    show mOw.getD j 99 ≠ 7
    rw [List.getD_eq_getElem?_getD, List.getElem?_eq_none (by rw [mOw_len]; exact hj)]
    decide
theorem cod_insOK (j pc : Nat) : insOK (Nat.beq (mown j) 7) (cod j pc) = true := by
  unfold cod kof
  have hb : ∀ b, insOK b bad = true := fun b => by cases b <;> decide
  cases e : Nat.beq j 300 with
  | true =>
    have : j = 300 := Nat.eq_of_beq_eq_true e
    subst this
    exact lkc_all (hb _) _ _ law_ok
  | false =>
    show insOK _ (lkc (ktab.getD j []) pc) = true
    by_cases hj : j < 274
    · exact lkc_all (hb _) _ _ (List.all_eq_true.mp tab_ok j (List.mem_range.mpr hj))
    · rw [List.getD_eq_getElem?_getD, List.getElem?_eq_none (by rw [ktab_lenE]; omega)]
      exact hb _
theorem hnd_mod {j : Nat} (hj : mown j = 7) (pc n : Nat) : hndj j pc n = none := by
  have hlt : j < 274 := by
    by_cases h : j < 274
    · exact h
    · exact absurd hj (mown_big (by omega))
  have := List.all_eq_true.mp hof_ok j (List.mem_range.mpr hlt)
  rw [hj] at this
  have : (hof j).isEmpty = true := by simpa using this
  unfold hndj
  rw [List.isEmpty_iff.mp this]; rfl
/-- the frame: a run on the part g is a run on the heap h in which g lies, moved by s -/
theorem WP.emb {s : Nat} {P : Nat → Bool} {h : AHp} {lim lim' : Nat × Nat} (hl1 : lim'.1 + s ≤ lim.1) (hl2 : lim'.2 ≤ lim.2) {d j pc : Nat} {ls : List (Option AV)} {st : List AV} {g : AHp} {R : RT} {X : XT}
    (hf : WP lim' d j pc ls st g R X) (hs : s = 0 ∨ mown j = 7) (F : Fm s P g) : WP lim d j pc (ls.map (shL s)) (st.map (shV s)) (_root_.Jvm.Pilot.CIntervalTreeLaw_law_r9763_99fb55.emb s P h g) (ER s P h R) (EY s P h X) := by
  refine hf (fun d j pc ls st g R X => (s = 0 ∨ mown j = 7) → Fm s P g → WP lim d j pc (ls.map (shL s)) (st.map (shV s)) (_root_.Jvm.Pilot.CIntervalTreeLaw_law_r9763_99fb55.emb s P h g) (ER s P h R) (EY s P h X)) ?_ hs F
  intro d j pc ls st g R X hf hs F
  refine WP.step ?_
  have ok := cod_insOK j pc
  unfold insOK at ok
  simp only [Bool.and_eq_true, Bool.or_eq_true, Bool.not_eq_true', decide_eq_true_eq] at ok
  obtain ⟨⟨⟨o1, o2⟩, o3⟩, o4⟩ := ok
  refine exec_e (s := s) (P := P) (h := h) (lim' := lim') o1 o2 (fun z hz => of_decide_eq_true (List.all_eq_true.mp o3 z hz)) hl1 hl2 (hs.imp id (fun q n => hnd_mod q pc n)) ?_ (fun pc ls st g F q => q hs F) (fun v g F q => ⟨v, g, rfl, rfl, F, q⟩) (fun n g F q => ⟨g, rfl, F, q⟩) F hf
  intro as g Q Y Q' Y' F hQ hY i1 i2 hc
  obtain ⟨h0, Q1, Y1, h1, h2, h3⟩ := hc
  refine ⟨h0, ER s P h Q1, EY s P h Y1, ?_, fun v h' ⟨v0, g', e1, e2, e3, e4⟩ => hQ _ _ ⟨v0, g', e1, e2, e3, h2 _ _ e4⟩, fun n h' ⟨g', e2, e3, e4⟩ => hY _ _ ⟨g', e2, e3, h3 _ _ e4⟩⟩
  have hs' : s = 0 ∨ mown (cod j pc).2.1 = 7 := by
    rcases hs with hs | hs
    · exact Or.inl hs
    · right
      rcases o4 with (o4 | o4) | o4
      · rw [hs] at o4; exact absurd o4 (by decide)
      · have : decide (32 ≤ (cod j pc).1) = true ∧ decide ((cod j pc).1 < 36) = true := ⟨decide_eq_true i1, decide_eq_true i2⟩
        rw [this.1, this.2] at o4; cases o4
      · exact Nat.eq_of_beq_eq_true o4
  have := h1 hs' F
  have e : ent (cod j pc).2.1 (as.map (shV s)) = (ent (cod j pc).2.1 as).map (shL s) := by
    unfold ent
    rw [List.map_append, List.length_map, List.map_map, List.map_map, List.map_replicate]; rfl
  rw [e]; exact this
theorem WM.emb {s : Nat} {P : Nat → Bool} {h : AHp} {lim lim' : Nat × Nat} (hl1 : lim'.1 + s ≤ lim.1) (hl2 : lim'.2 ≤ lim.2) {d j : Nat} {as : List AV} {g : AHp} {R : RT} {X : XT}
    (hf : WM lim' d j as g R X) (hs : s = 0 ∨ mown j = 7) (F : Fm s P g) : WM lim d j (as.map (shV s)) (_root_.Jvm.Pilot.CIntervalTreeLaw_law_r9763_99fb55.emb s P h g) (ER s P h R) (EY s P h X) := by
  have := WP.emb (h := h) hl1 hl2 hf hs F
  have e : ent j (as.map (shV s)) = (ent j as).map (shL s) := by
    unfold ent
    rw [List.map_append, List.length_map, List.map_map, List.map_map, List.map_replicate]; rfl
  unfold WM
  rw [e]; exact this
