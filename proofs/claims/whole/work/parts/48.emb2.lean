/-! ===== the frame once more, for what makes nothing new: the rest may reach beyond the heap's end ===== -/
def Fn (s : Nat) (P : Nat → Bool) (g : AHp) : Prop := True ∧ (∀ A, A < s → P A = true) ∧ ∀ a, P (a + s) = true → hk g a = kP
def EnR (s : Nat) (P : Nat → Bool) (h : AHp) (R : RT) : RT := fun v h' => ∃ v0 g', v = shL s v0 ∧ h' = emb s P h g' ∧ Fn s P g' ∧ R v0 g'
def EnY (s : Nat) (P : Nat → Bool) (h : AHp) (X : XT) : XT := fun n h' => ∃ g', h' = emb s P h g' ∧ Fn s P g' ∧ X n g'
section EMB
variable {s : Nat} {P : Nat → Bool} {h g : AHp}
theorem Fn.free (F : Fn s P g) {a c : Nat} (hc : c < 5000) (e : hk g a = c) : P (a + s) = false := by
  cases q : P (a + s) with
  | false => rfl
  | true => have e2 : hk g a = 77777 := F.2.2 a q; omega
theorem Fn.free' (F : Fn s P g) {a : Nat} (e : hk g a < 15) : P (a + s) = false := F.free (by omega) rfl
theorem up2_emb2 {α : Type} {f0 f : Nat → Nat → α} {a k : Nat} {v : α} (F : Fn s P g) (f1 : P (a + s) = false) : up2 (fun A j => if P A = true then f0 A j else f (A - s) j) (a + s) k v = fun A j => if P A = true then f0 A j else up2 f a k v (A - s) j := by
  funext A j
  show (if A = a + s ∧ j = k then v else if P A = true then f0 A j else f (A - s) j) = if P A = true then f0 A j else if A - s = a ∧ j = k then v else f (A - s) j
  by_cases e : A = a + s
  · have fA : ¬ P A = true := by rw [e, f1]; decide
    have eA : A - s = a := by omega
    rw [if_neg fA, if_neg fA, eA]
    by_cases e2 : j = k
    · rw [if_pos (⟨e, e2⟩ : A = a + s ∧ j = k), if_pos (⟨rfl, e2⟩ : a = a ∧ j = k)]
    · rw [if_neg (fun q : A = a + s ∧ j = k => e2 q.2), if_neg (fun q : a = a ∧ j = k => e2 q.2)]
  · rw [if_neg (fun q : A = a + s ∧ j = k => e q.1)]
    by_cases p : P A = true
    · rw [if_pos p, if_pos p]
    · rw [if_neg p, if_neg p, if_neg]
      intro q
      have : ¬ A < s := fun z => p (F.2.1 A z)
      exact e (by omega)
theorem emb_sI2 {a k : Nat} {v : Int32} (F : Fn s P g) (f : P (a + s) = false) : sI (emb s P h g) (a + s) k v = emb s P h (sI g a k v) := by
  show (_, _, _, up2 (fun A j => if P A = true then hI h A j else hI g (A - s) j) (a + s) k v, _, _) = _
  rw [up2_emb2 F f]; rfl
theorem emb_sJ2 {a k : Nat} {v : Int64} (F : Fn s P g) (f : P (a + s) = false) : sJ (emb s P h g) (a + s) k v = emb s P h (sJ g a k v) := by
  show (_, _, _, _, _, up2 (fun A j => if P A = true then hJ h A j else hJ g (A - s) j) (a + s) k v) = _
  rw [up2_emb2 F f]; rfl
theorem emb_sP2 {a k : Nat} {v : Option Nat} (F : Fn s P g) (f : P (a + s) = false) : sP (emb s P h g) (a + s) k (shO s v) = emb s P h (sP g a k v) := by
  show (_, _, _, _, up2 (fun A j => if P A = true then hP h A j else shO s (hP g (A - s) j)) (a + s) k (shO s v), _) = _
  rw [up2_emb2 (f0 := hP h) (f := fun b i => shO s (hP g b i)) F f]
  have : up2 (fun b i => shO s (hP g b i)) a k (shO s v) = fun b i => shO s (up2 (hP g) a k v b i) := by
    funext b i; unfold up2; split <;> rfl
  rw [this]; rfl
theorem Fn.sI (F : Fn s P g) {a k : Nat} {v : Int32} : Fn s P (sI g a k v) := F
theorem Fn.sJ (F : Fn s P g) {a k : Nat} {v : Int64} : Fn s P (sJ g a k v) := F
theorem Fn.sP (F : Fn s P g) {a k : Nat} {v : Option Nat} : Fn s P (sP g a k v) := F
variable {CALL CALL' : CT} {K K' : KT} {R R' : RT} {X X' : XT} {lim lim' : Nat × Nat} {hnd : Nat → Option Nat} {i : Ins} {ls : List (Option AV)} {st : List AV}
theorem rt_e2 (hK : ∀ pc ls st g, Fn s P g → K pc ls st g → K' pc (ls.map (shL s)) (st.map (shV s)) (emb s P h g)) (r : List AV) (v : Option AV) (h' : AHp) (hf : EnR s P h (rt_to K i ls r) v h') : rt_to K' i (ls.map (shL s)) (r.map (shV s)) v h' := by
  obtain ⟨v0, g', rfl, rfl, F, hf⟩ := hf
  unfold rt_to at *
  split at hf
  · rename_i e; rw [if_pos e]; exact hK _ _ _ _ F hf
  · rename_i e; rw [if_neg e]
    split at hf
    · rename_i e; rw [if_pos e]; exact onI_e (fun x q => hK _ _ (vi x :: r) _ F q) hf
    · rename_i e; rw [if_neg e]; exact onO_e (fun o q => hK _ _ (vr o :: r) _ F q) hf
theorem hx_e2 (hs : s = 0 ∨ ∀ n, hnd n = none) (hK : ∀ pc ls st g, Fn s P g → K pc ls st g → K' pc (ls.map (shL s)) (st.map (shV s)) (emb s P h g)) (hX : ∀ n g, Fn s P g → X n g → X' n (emb s P h g)) (n : Nat) (h' : AHp) (hf : EnY s P h (hx_to K X hnd ls) n h') : hx_to K' X' hnd (ls.map (shL s)) n h' := by
  obtain ⟨g', rfl, F, hf⟩ := hf
  unfold hx_to at *
  split at hf
  · exact hX _ _ F hf
  · rename_i t e
    rcases hs with rfl | hs
    · intro q; exact hK _ _ [vr (some q)] _ F (hf q)
    · rw [hs n] at e; cases e
theorem br_e2 {k : Nat} {x y : Int32} {A B A' B' : Prop} (q : A → A') (q2 : B → B') (hf : br k x y A B) : br k x y A' B' := br_mono q q2 hf
/-- one instruction -/
theorem exec_e2 (h1 : i.2.1 < 5000) (h2 : i.2.2.1 < 5000) (h33 : ∀ z ∈ i.2.2.2.2.2, z.2 < 5000) (hl1 : lim'.1 + s ≤ lim.1) (hl2 : lim'.2 ≤ lim.2) (hl0 : lim'.1 = 0) (hs : s = 0 ∨ ∀ n, hnd n = none)
    (hc : ∀ as g Q Y Q' Y', Fn s P g → (∀ v h', EnR s P h Q v h' → Q' v h') → (∀ n h', EnY s P h Y n h' → Y' n h') → 32 ≤ i.1 → i.1 < 36 → CALL i.2.1 as g Q Y → CALL' i.2.1 (as.map (shV s)) (emb s P h g) Q' Y')
    (hK : ∀ pc ls st g, Fn s P g → K pc ls st g → K' pc (ls.map (shL s)) (st.map (shV s)) (emb s P h g)) (hR : ∀ v g, Fn s P g → R v g → R' (shL s v) (emb s P h g)) (hX : ∀ n g, Fn s P g → X n g → X' n (emb s P h g)) (F : Fn s P g)
    (hf : exec CALL K R X lim' hnd i ls st g) : exec CALL' K' R' X' lim hnd i (ls.map (shL s)) (st.map (shV s)) (emb s P h g) := by
  unfold exec at *
  split at hf
  · rename_i e; rw [if_pos e]
    split at hf
    · rename_i e; rw [if_pos e]
      split at hf
      · rename_i e; rw [if_pos e]
        split at hf
        · rename_i e; rw [if_pos e]
          exact getL_e (fun v => asI_e fun x q => hK _ _ (vi x :: st) _ F q) hf
        rename_i e; rw [if_neg e]
        split at hf
        · rename_i e; rw [if_pos e]
          exact getL_e (fun v => asR_e fun x q => hK _ _ (vr x :: st) _ F q) hf
        rename_i e; rw [if_neg e]
        split at hf
        · rename_i e; rw [if_pos e]
          exact pI_e (fun x r q => by have := hK _ _ _ _ F q; rw [set_e] at this; exact this) hf
        rename_i e; rw [if_neg e]
        exact pR_e (fun x r q => by have := hK _ _ _ _ F q; rw [set_e] at this; exact this) hf
      rename_i e; rw [if_neg e]
      split at hf
      · rename_i e; rw [if_pos e]
        exact hK _ _ (vi _ :: st) _ F hf
      rename_i e; rw [if_neg e]
      split at hf
      · rename_i e; rw [if_pos e]
        exact hK _ _ (vr none :: st) _ F hf
      rename_i e; rw [if_neg e]
      split at hf
      · rename_i e; rw [if_pos e]
        exact pR_e (fun o r => onR_e fun a q => by have f := F.free h1 q.1; refine ⟨(emb_k f).trans q.1, ?_⟩; rw [emb_I f]; exact hK _ _ (vi _ :: r) _ F q.2) hf
      rename_i e; rw [if_neg e]
      exact pR_e (fun o r => onR_e fun a q => by have f := F.free h1 q.1; refine ⟨(emb_k f).trans q.1, ?_⟩; rw [emb_P f]; exact hK _ _ (vr _ :: r) _ F q.2) hf
    rename_i e; rw [if_neg e]
    split at hf
    · rename_i e; rw [if_pos e]
      split at hf
      · rename_i e; rw [if_pos e]
        exact pI_e (fun x r => pR_e fun o r => onR_e fun a q => by have f := F.free h1 q.1; refine ⟨(emb_k f).trans q.1, ?_⟩; rw [emb_sI2 F f]; exact hK _ _ r _ F.sI q.2) hf
      rename_i e; rw [if_neg e]
      split at hf
      · rename_i e; rw [if_pos e]
        exact pI_e (fun x r => pR_e fun o r => onR_e fun a q => by have f := F.free h1 q.1; refine ⟨(emb_k f).trans q.1, q.2.1, ?_⟩; rw [emb_sI2 F f]; exact hK _ _ r _ F.sI q.2.2) hf
      rename_i e; rw [if_neg e]
      split at hf
      · rename_i e; rw [if_pos e]
        exact pR_e (fun x r => pR_e fun o r => onR_e fun a q => by have f := F.free h1 q.1; refine ⟨(emb_k f).trans q.1, ?_⟩; rw [emb_sP2 F f]; exact hK _ _ r _ F.sP q.2) hf
      rename_i e; rw [if_neg e]
      exact pI_e (fun x r => pI_e fun y r q => hK _ _ (vi _ :: r) _ F q) hf
    rename_i e; rw [if_neg e]
    split at hf
    · rename_i e; rw [if_pos e]
      exact pI_e (fun x r => pI_e fun y r q => ⟨q.1, hK _ _ (vi _ :: r) _ F q.2⟩) hf
    rename_i e; rw [if_neg e]
    split at hf
    · rename_i e; rw [if_pos e]
      exact pI_e (fun x r => pI_e fun y r q => ⟨q.1, hK _ _ (vi _ :: r) _ F q.2⟩) hf
    rename_i e; rw [if_neg e]
    split at hf
    · rename_i e; rw [if_pos e]
      exact pI_e (fun x r q => hK _ _ (vi _ :: r) _ F q) hf
    rename_i e; rw [if_neg e]
    exact getL_e (fun v => asI_e fun x q => by have := hK _ _ _ _ F q; rw [set_e] at this; exact this) hf
  rename_i e; rw [if_neg e]
  split at hf
  · rename_i e; rw [if_pos e]
    split at hf
    · rename_i e; rw [if_pos e]
      split at hf
      · rename_i e; rw [if_pos e]
        split at hf
        · rename_i e; rw [if_pos e]
          exact hK _ _ _ _ F hf
        rename_i e; rw [if_neg e]
        split at hf
        · rename_i e; rw [if_pos e]
          exact pI_e (fun x r => br_mono (hK _ _ r _ F) (hK _ _ r _ F)) hf
        rename_i e; rw [if_neg e]
        split at hf
        · rename_i e; rw [if_pos e]
          exact pI_e (fun x r => pI_e fun y r => br_mono (hK _ _ r _ F) (hK _ _ r _ F)) hf
        rename_i e; rw [if_neg e]
        exact pR_e (fun x r => pR_e fun y r q => by split at q <;> (rename_i e; first | (rw [if_pos (congrArg (shO s) e)]; exact hK _ _ r _ F q) | (rw [if_neg (fun z => e (shO_inj z))]; exact hK _ _ r _ F q))) hf
      rename_i e; rw [if_neg e]
      split at hf
      · rename_i e; rw [if_pos e]
        exact pR_e (fun x r => pR_e fun y r q => by split at q <;> (rename_i e; first | (rw [if_pos (congrArg (shO s) e)]; exact hK _ _ r _ F q) | (rw [if_neg (fun z => e (shO_inj z))]; exact hK _ _ r _ F q))) hf
      rename_i e; rw [if_neg e]
      split at hf
      · rename_i e; rw [if_pos e]
        exact pR_e (fun x r => ifN_e (hK _ _ r _ F) (hK _ _ r _ F)) hf
      rename_i e; rw [if_neg e]
      split at hf
      · rename_i e; rw [if_pos e]
        exact pR_e (fun x r => ifN_e (hK _ _ r _ F) (hK _ _ r _ F)) hf
      rename_i e; rw [if_neg e]
      exact pI_e (fun x r => pR_e fun o r => onR_e fun a q => by have f := F.free h1 q.1; refine ⟨(emb_k f).trans q.1, by rw [emb_len f]; exact q.2.1, ?_⟩; rw [emb_I f]; exact hK _ _ (vi _ :: r) _ F q.2.2) hf
    rename_i e; rw [if_neg e]
    split at hf
    · rename_i e; rw [if_pos e]
      split at hf
      · rename_i e; rw [if_pos e]
        exact pI_e (fun x r => pR_e fun o r => onR_e fun a q => by have f := F.free h1 q.1; refine ⟨(emb_k f).trans q.1, by rw [emb_len f]; exact q.2.1, ?_⟩; rw [emb_P f]; exact hK _ _ (vr _ :: r) _ F q.2.2) hf
      rename_i e; rw [if_neg e]
      split at hf
      · rename_i e; rw [if_pos e]
        exact pI_e (fun v r => pI_e fun x r => pR_e fun o r => onR_e fun a q => by have f := F.free (by decide) q.1; refine ⟨(emb_k f).trans q.1, by rw [emb_len f]; exact q.2.1, ?_⟩; rw [emb_sI2 F f]; exact hK _ _ r _ F.sI q.2.2) hf
      rename_i e; rw [if_neg e]
      split at hf
      · rename_i e; rw [if_pos e]
        exact pI_e (fun v r => pI_e fun x r => pR_e fun o r => onR_e fun a q => by have f := F.free (by decide) q.1; refine ⟨(emb_k f).trans q.1, by rw [emb_len f]; exact q.2.1, q.2.2.1, ?_⟩; rw [emb_sI2 F f]; exact hK _ _ r _ F.sI q.2.2.2) hf
      rename_i e; rw [if_neg e]
      exact pR_e (fun v r => pI_e fun x r => pR_e fun o r => onR_e fun a q => by
          have f := F.free h1 q.1
          refine ⟨(emb_k f).trans q.1, by rw [emb_len f]; exact q.2.1, fun b eb => ?_, ?_⟩
          · cases v with
            | none => cases eb
            | some b0 =>
              cases Option.some.inj eb
              have e0 := q.2.2.1 b0 rfl
              exact (emb_k (F.free h2 e0)).trans e0
          · rw [emb_sP2 F f]; exact hK _ _ r _ F.sP q.2.2.2) hf
    rename_i e; rw [if_neg e]
    split at hf
    · rename_i e; rw [if_pos e]
      exact pR_e (fun o r => onR_e fun a q => by have f := F.free' q.1.2; refine ⟨by rw [emb_k f]; exact q.1, ?_⟩; rw [emb_len f]; exact hK _ _ (vi _ :: r) _ F q.2) hf
    rename_i e; rw [if_neg e]
    split at hf
    · rename_i e; rw [if_pos e]
      exact pR_e (fun o r q => hK _ _ (vr o :: vr o :: r) _ F q) hf
    rename_i e; rw [if_neg e]
    split at hf
    · rename_i e; rw [if_pos e]
      exact pI_e (fun x r => pR_e fun o r q => hK _ _ (vi x :: vr o :: vi x :: vr o :: r) _ F q) hf
    rename_i e; rw [if_neg e]
    exact pI_e (fun x r q => hK _ _ r _ F q) hf
  rename_i e; rw [if_neg e]
  split at hf
  · rename_i e; rw [if_pos e]
    split at hf
    · rename_i e; rw [if_pos e]
      split at hf
      · rename_i e; rw [if_pos e]
        split at hf
        · rename_i e; rw [if_pos e]
          exact pN_e (acc := []) (fun as r => sh_e fun q => hc _ _ _ _ _ _ F (rt_e2 hK r) (hx_e2 hs hK hX) (by omega) (by omega) q) hf
        rename_i e; rw [if_neg e]
        split at hf
        · rename_i e; rw [if_pos e]
          exact pN_e (acc := []) (fun as r => pR_e fun o r => onR_e fun a q => ⟨fun z hz => by
                  have e0 := q.1 z hz
                  by_cases hp : P (a + s) = true
                  · exact absurd (F.2.2 a hp) (fun y => by have y2 : hk g a = 77777 := y; have := h33 z hz; omega)
                  · have f : P (a + s) = false := by cases hb : P (a + s) with
                      | false => rfl
                      | true => exact absurd hb hp
                    exact (emb_k f).trans e0, sh_e (fun q => hc (vr (some a) :: as) _ _ _ _ _ F (rt_e2 hK r) (hx_e2 hs hK hX) (by omega) (by omega) q) q.2⟩) hf
        rename_i e; rw [if_neg e]
        split at hf
        · rename_i e; rw [if_pos e]
          exact pN_e (acc := []) (fun as r => pR_e fun o r => onR_e fun a => sh_e fun q => hc (vr (some a) :: as) _ _ _ _ _ F (rt_e2 hK r) (fun n h' z => by obtain ⟨_, _, _, z⟩ := z; exact z.elim) (by omega) (by omega) q) hf
        rename_i e; rw [if_neg e]
        exact pN_e (acc := []) (fun as r => sh_e fun q => hc _ _ _ _ _ _ F (rt_e2 hK r) (fun n h' z => by obtain ⟨_, _, _, z⟩ := z; exact z.elim) (by omega) (by omega) q) hf
      rename_i e; rw [if_neg e]
      split at hf
      · rename_i e; rw [if_pos e]
        exact pR_e (fun o r => onR_e fun a => sh_e (hK _ _ r _ F)) hf
      rename_i e; rw [if_neg e]
      split at hf
      · rename_i e; rw [if_pos e]
        exact pI_e (fun x r => pI_e fun y r => sh_e (hK _ _ (vi _ :: r) _ F)) hf
      rename_i e; rw [if_neg e]
      split at hf
      · rename_i e; rw [if_pos e]
        exact pI_e (fun x r => pI_e fun y r => sh_e (hK _ _ (vi _ :: r) _ F)) hf
      rename_i e; rw [if_neg e]
      refine (⟨?_, ?_, ?_⟩ : hsz g + s + 1 ≤ lim.1 ∧ hsu g + i.2.2.1 ≤ lim.2 ∧ K' i.2.2.2.1 (ls.map (shL s)) (vr (some (hsz g + s)) :: st.map (shV s)) (nw (emb s P h g) i.2.1 i.2.2.1))
      · show hsz g + s + 1 ≤ lim.1; have := hf.1; omega
      · exact Nat.le_trans hf.2.1 hl2
      · exact absurd hf.1 (by omega)
    rename_i e; rw [if_neg e]
    split at hf
    · rename_i e; rw [if_pos e]
      split at hf
      · rename_i e; rw [if_pos e]
        exact pI_e (fun x r q => absurd q.2.2.1 (by omega)) hf
      rename_i e; rw [if_neg e]
      split at hf
      · rename_i e; rw [if_pos e]
        exact pI_e (fun x r q => ⟨by rw [q.1]; rfl, hR (some (vi x)) _ F q.2⟩) hf
      rename_i e; rw [if_neg e]
      split at hf
      · rename_i e; rw [if_pos e]
        exact pI_e (fun x r q => ⟨by rw [q.1]; rfl, q.2.1, hR (some (vi x)) _ F q.2.2⟩) hf
      rename_i e; rw [if_neg e]
      exact pR_e (fun x r q => ⟨by rw [q.1]; rfl, hR (some (vr x)) _ F q.2⟩) hf
    rename_i e; rw [if_neg e]
    split at hf
    · rename_i e; rw [if_pos e]
      exact ⟨by rw [hf.1]; rfl, hR none _ F hf.2⟩
    rename_i e; rw [if_neg e]
    split at hf
    · rename_i e; rw [if_pos e]
      exact pI_e (fun x r => swt_mono fun _ q => hK _ _ r _ F q) hf
    rename_i e; rw [if_neg e]
    split at hf
    · rename_i e; rw [if_pos e]
      refine ⟨by rw [hf.1]; rfl, ?_, Nat.le_trans hf.2.2.1 hl2, fun z u q1 q2 q3 q4 => ?_⟩
      · show hsz g + s + 1 ≤ lim.1; have := hf.2.1; omega
      · have q1 : hsz g + s ≤ z := q1
        have q2 : z ≤ hsz g + s + 1 := q2
        obtain ⟨y, rfl⟩ : ∃ y, z = y + s := ⟨z - s, by omega⟩
        exact absurd hf.2.1 (by omega)
    rename_i e; rw [if_neg e]
    exact pI_e (fun x r q => hK _ _ (vl _ :: r) _ F q) hf
  rename_i e; rw [if_neg e]
  split at hf
  · rename_i e; rw [if_pos e]
    exact pL_e (fun x r => pL_e fun y r q => hK _ _ (vi _ :: r) _ F q) hf
  rename_i e; rw [if_neg e]
  split at hf
  · rename_i e; rw [if_pos e]
    exact pI_e (fun x r => pR_e fun o r => onR_e fun a q => by have f := F.free (by decide) q.1; refine ⟨(emb_k f).trans q.1, by rw [emb_len f]; exact q.2.1, ?_⟩; rw [emb_J f]; exact hK _ _ (vl _ :: r) _ F q.2.2) hf
  rename_i e; rw [if_neg e]
  split at hf
  · rename_i e; rw [if_pos e]
    exact pL_e (fun v r => pI_e fun x r => pR_e fun o r => onR_e fun a q => by have f := F.free (by decide) q.1; refine ⟨(emb_k f).trans q.1, by rw [emb_len f]; exact q.2.1, ?_⟩; rw [emb_sJ2 F f]; exact hK _ _ r _ F.sJ q.2.2) hf
  rename_i e; rw [if_neg e]
  split at hf
  · rename_i e; rw [if_pos e]
    exact hK _ _ (vl _ :: st) _ F hf
  rename_i e; rw [if_neg e]
  exact hf.elim
end EMB
theorem WP.emn {s : Nat} {P : Nat → Bool} {h : AHp} {lim lim' : Nat × Nat} (hl1 : lim'.1 + s ≤ lim.1) (hl2 : lim'.2 ≤ lim.2) (hl0 : lim'.1 = 0) {d j pc : Nat} {ls : List (Option AV)} {st : List AV} {g : AHp} {R : RT} {X : XT}
    (hf : WP lim' d j pc ls st g R X) (hs : s = 0 ∨ mown j = 7) (F : Fn s P g) : WP lim d j pc (ls.map (shL s)) (st.map (shV s)) (_root_.Jvm.Pilot.CIntervalTreeLaw_law_r9763_99fb55.emb s P h g) (EnR s P h R) (EnY s P h X) := by
  refine hf (fun d j pc ls st g R X => (s = 0 ∨ mown j = 7) → Fn s P g → WP lim d j pc (ls.map (shL s)) (st.map (shV s)) (_root_.Jvm.Pilot.CIntervalTreeLaw_law_r9763_99fb55.emb s P h g) (EnR s P h R) (EnY s P h X)) ?_ hs F
  intro d j pc ls st g R X hf hs F
  refine WP.step ?_
  have ok := cod_insOK j pc
  unfold insOK at ok
  simp only [Bool.and_eq_true, Bool.or_eq_true, Bool.not_eq_true', decide_eq_true_eq] at ok
  obtain ⟨⟨⟨o1, o2⟩, o3⟩, o4⟩ := ok
  refine exec_e2 (s := s) (P := P) (h := h) (lim' := lim') o1 o2 (fun z hz => of_decide_eq_true (List.all_eq_true.mp o3 z hz)) hl1 hl2 hl0 (hs.imp id (fun q n => hnd_mod q pc n)) ?_ (fun pc ls st g F q => q hs F) (fun v g F q => ⟨v, g, rfl, rfl, F, q⟩) (fun n g F q => ⟨g, rfl, F, q⟩) F hf
  intro as g Q Y Q' Y' F hQ hY i1 i2 hc
  obtain ⟨h0, Q1, Y1, h1, h2, h3⟩ := hc
  refine ⟨h0, EnR s P h Q1, EnY s P h Y1, ?_, fun v h' ⟨v0, g', e1, e2, e3, e4⟩ => hQ _ _ ⟨v0, g', e1, e2, e3, h2 _ _ e4⟩, fun n h' ⟨g', e2, e3, e4⟩ => hY _ _ ⟨g', e2, e3, h3 _ _ e4⟩⟩
  have hs' : s = 0 ∨ mown (cod j pc).2.1 = 7 := by
    rcases hs with hs | hs
    · exact Or.inl hs
    · right
      rcases o4 with (o4 | o4) | o4
      · rw [hs] at o4; exact absurd o4 (by decide)
      · have : decide (32 ≤ (cod j pc).1) = true ∧ decide ((cod j pc).1 < 36) = true := ⟨decide_eq_true i1, decide_eq_true i2⟩
        rw [this.1, this.2] at o4; cases o4
      · exact Nat.eq_of_beq_eq_true o4
  have := h1 hs' F
  have e : ent (cod j pc).2.1 (as.map (shV s)) = (ent (cod j pc).2.1 as).map (shL s) := by
    unfold ent
    rw [List.map_append, List.length_map, List.map_map, List.map_map, List.map_replicate]; rfl
  rw [e]; exact this
theorem WM.emn {s : Nat} {P : Nat → Bool} {h : AHp} {lim lim' : Nat × Nat} (hl1 : lim'.1 + s ≤ lim.1) (hl2 : lim'.2 ≤ lim.2) (hl0 : lim'.1 = 0) {d j : Nat} {as : List AV} {g : AHp} {R : RT} {X : XT}
    (hf : WM lim' d j as g R X) (hs : s = 0 ∨ mown j = 7) (F : Fn s P g) : WM lim d j (as.map (shV s)) (_root_.Jvm.Pilot.CIntervalTreeLaw_law_r9763_99fb55.emb s P h g) (EnR s P h R) (EnY s P h X) := by
  have := WP.emn (h := h) hl1 hl2 hl0 hf hs F
  have e : ent j (as.map (shV s)) = (ent j as).map (shL s) := by
    unfold ent
    rw [List.map_append, List.length_map, List.map_map, List.map_map, List.map_replicate]; rfl
  unfold WM
  rw [e]; exact this
