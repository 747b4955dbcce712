/-! ===== the ranking by weights ===== -/
def outr (K : MT) (a b : Nat) : Prop := (K 3 b).toInt < (K 3 a).toInt ∨ ((K 3 a).toInt = (K 3 b).toInt ∧ a < b)
def ovB (K : MT) (f t : Int32) (a : Nat) : Prop := (K 1 a).toInt ≤ t.toInt ∧ f.toInt ≤ (K 2 a).toInt
def outB (K : MT) (f t : Int32) (a o : Nat) : Bool := decide (((K 1 o).toInt ≤ t.toInt ∧ f.toInt ≤ (K 2 o).toInt) ∧ ((K 3 a).toInt < (K 3 o).toInt ∨ ((K 3 o).toInt = (K 3 a).toInt ∧ o < a)))
theorem outB_iff {K : MT} {f t : Int32} {a o : Nat} : outB K f t a o = true ↔ ovB K f t o ∧ outr K o a := decide_eq_true_iff
def rk (K : MT) (f t : Int32) (l : List Nat) (a : Nat) : Nat := l.countP (outB K f t a)
theorem outr_irr {K : MT} {a : Nat} : ¬ outr K a a := by unfold outr; omega
theorem outr_trans {K : MT} {a b c : Nat} (h1 : outr K a b) (h2 : outr K b c) : outr K a c := by unfold outr at *; omega
theorem outr_tri {K : MT} {a b : Nat} (h : a ≠ b) : outr K a b ∨ outr K b a := by unfold outr; omega
def RkR (K : MT) (T : Tr) (f t k : Int32) (o : Option Nat) : Prop := (o = none ∧ ∀ a ∈ live K T, ovB K f t a → ¬ nI (rk K f t (live K T) a) = k) ∨ (∃ a, a ∈ live K T ∧ ovB K f t a ∧ o = some a ∧ nI (rk K f t (live K T) a) = k)
theorem countP_le2 {p q : Nat → Bool} (h : ∀ x, p x = true → q x = true) : ∀ s : List Nat, s.countP p ≤ s.countP q := fun s => List.countP_mono_left (fun x _ => h x)
theorem countP_lt2 {p q : Nat → Bool} {a : Nat} (h : ∀ x, p x = true → q x = true) (h1 : p a = false) (h2 : q a = true) : ∀ s : List Nat, a ∈ s → s.countP p < s.countP q := by
  intro s
  induction s with
  | nil => intro m; cases m
  | cons x s ih =>
    intro m
    by_cases e : a = x
    · subst e
      rw [List.countP_cons_of_neg (by rw [h1]; decide), List.countP_cons_of_pos h2]
      exact Nat.lt_succ_of_le (countP_le2 h s)
    · have := ih ((List.mem_cons.mp m).resolve_left e)
      cases hp : p x with
      | true => rw [List.countP_cons_of_pos hp, List.countP_cons_of_pos (h x hp)]; exact Nat.succ_lt_succ this
      | false =>
        rw [List.countP_cons_of_neg (by rw [hp]; decide)]
        exact Nat.lt_of_lt_of_le this (by rw [List.countP_cons]; exact Nat.le_add_right _ _)
theorem rk_lt {K : MT} {f t : Int32} {l : List Nat} {a b : Nat} (ha : a ∈ l) (hv : ovB K f t a) (h : outr K a b) : rk K f t l a < rk K f t l b := by
  unfold rk
  refine countP_lt2 (fun x q => ?_) ?_ ?_ l ha
  · rw [outB_iff] at q ⊢; exact ⟨q.1, outr_trans q.2 h⟩
  · cases c : outB K f t a a with
    | false => rfl
    | true => exact (outr_irr (outB_iff.mp c).2).elim
  · exact outB_iff.mpr ⟨hv, h⟩
theorem Rk_uniq {K : MT} {T : Tr} {N : Nat} {W : Int} {f t k : Int32} {o o' : Option Nat} (I : TI K T N W) (h : RkR K T f t k o) (h' : RkR K T f t k o') : o = o' := by
  have hlen : (live K T).length ≤ 100 := by have := I.len; have := I.2.2.2.2.2.2.2.2.2.1; omega
  have hb : ∀ a, rk K f t (live K T) a ≤ 100 := fun a => Nat.le_trans List.countP_le_length hlen
  rcases h with ⟨e, h⟩ | ⟨a, ha, hv, e, h⟩
  · rcases h' with ⟨e', -⟩ | ⟨b, hb', hv', -, h'⟩
    · rw [e, e']
    · exact (h b hb' hv' h').elim
  · rcases h' with ⟨-, h'⟩ | ⟨b, hb', hv', e', h'⟩
    · exact (h' a ha hv h).elim
    · rw [e, e']
      congr 1
      by_cases c : a = b
      · exact c
      · have hab : rk K f t (live K T) a = rk K f t (live K T) b := nI_inj (by have := hb a; omega) (by have := hb b; omega) (h.trans h'.symm)
        rcases outr_tri c with q | q
        · have := rk_lt ha hv q; omega
        · have := rk_lt hb' hv' q; omega
section RKR
variable {z : Nat × Nat} {d : Nat} {M : MT} {Q : Option AV → MT → Prop} {N : Nat} {f t k : Int32} {T : Tr} {W : Int}
theorem L_rk42 (hN : M 0 10 = nI N) (hN5 : N ≤ 500) (hd : 0 < d) {a : Nat} (ha : a < 500) (q : ∀ x5 x6, x5 = isum (fun o => if M 4 o = 0 ∧ outB M f t a o = true then 1 else 0) (List.range' 0 N) → (if x5 = k then (Q (some (vi (nI a))) M) else (WK z d j_Mo_ranked 3 [some (vr (some 0)), some (vi f), some (vi t), some (vi k), some (vi (nI a + (1 : Int32))), some (vi x5), some (vi x6)] [] M Q))) : ∀ (n i : Nat), i + n = N → WK z d j_Mo_ranked 42 [some (vr (some 0)), some (vi f), some (vi t), some (vi k), some (vi (nI a)), some (vi (isum (fun o => if M 4 o = 0 ∧ outB M f t a o = true then 1 else 0) (List.range' 0 i))), some (vi (nI i))] [] M Q := by
  intro n
  induction n with
  | zero =>
    intro i hi
    have : i = N := by omega
    subst this
    refine M_ranked_42 ?_
    rw [hN, if_neg (nI_nlt (Nat.le_refl _) (by omega))]
    exact q _ _ rfl
  | succ n ih =>
    intro i hi
    have i5 : i < 500 := by omega
    have xi : ix (nI i) 500 := ix_nI i5 (by decide)
    have xa : ix (nI a) 500 := ix_nI ha (by decide)
    have nx := ih (i + 1) (by omega)
    have hs : isum (fun o => if M 4 o = 0 ∧ outB M f t a o = true then (1 : Int32) else 0) (List.range' 0 (i + 1)) = isum (fun o => if M 4 o = 0 ∧ outB M f t a o = true then 1 else 0) (List.range' 0 i) + (if M 4 i = 0 ∧ outB M f t a i = true then 1 else 0) := by
      rw [List.range'_concat, isum_app, Nat.zero_add, Nat.one_mul]; congr 1; exact i32_zero _
    rw [hs] at nx
    refine M_ranked_42 ?_
    rw [hN, if_pos (nI_lt (by omega) (by omega)), nI_clamp (by omega), nI_1]
    refine ⟨xi, ?_⟩
    by_cases c4 : M 4 i = 0
    · rw [if_pos c4]
      refine ⟨hd, S_overlaps i5 (fun h1 h2 => onI_1 ?_) (fun h => onI_0 ?_)⟩
      · rw [nI_clamp (show a < 2 ^ 31 by omega)]
        refine ⟨xi, xa, ?_⟩
        have hov : ovB M f t i := ⟨h1, h2⟩
        split
        · rename_i c; rw [i_lt] at c
          rw [if_pos ⟨c4, outB_iff.mpr ⟨hov, Or.inl c⟩⟩] at nx; exact nx
        · rename_i c; rw [i_lt] at c
          refine ⟨xi, xa, ?_⟩
          split
          · rename_i c2
            split
            · rename_i c3
              rw [i_lt, nI_toInt (by omega), nI_toInt (by omega)] at c3
              rw [if_pos ⟨c4, outB_iff.mpr ⟨hov, Or.inr ⟨by rw [c2], by omega⟩⟩⟩] at nx; exact nx
            · rename_i c3
              rw [i_lt, nI_toInt (by omega), nI_toInt (by omega)] at c3
              rw [if_neg (fun z => by
                have h3 := (outB_iff.mp z.2).2
                unfold outr at h3
                rw [c2] at h3; omega)] at nx; exact nx
          · rename_i c2
            rw [if_neg (fun z => by
              have h3 := (outB_iff.mp z.2).2
              unfold outr at h3
              rcases h3 with h3 | h3
              · omega
              · exact c2 (by rw [i_eq]; exact h3.1))] at nx; exact nx
      · rw [if_neg (fun z => h (outB_iff.mp z.2).1)] at nx; exact nx
    · rw [if_neg c4]
      rw [if_neg (fun z => c4 z.1)] at nx; exact nx
theorem L_rk3 (I : TI M T N W) (hd : 0 < d) (q : ∀ o, RkR M T f t k o → Q (some (vi (idI o))) M) : ∀ (n i : Nat) (l5 l6 : Option AV), i + n = N → (∀ a, a < i → a ∈ live M T → ovB M f t a → ¬ nI (rk M f t (live M T) a) = k) → WK z d j_Mo_ranked 3 [some (vr (some 0)), some (vi f), some (vi t), some (vi k), some (vi (nI i)), l5, l6] [] M Q := by
  have hN := I.1
  have hN5 := I.2.1
  intro n
  induction n with
  | zero =>
    intro i l5 l6 hi h
    refine M_ranked_3 ?_
    rw [hN, if_neg (nI_nlt (by omega) (by omega))]
    exact q none (Or.inl ⟨rfl, fun a ha hv => h a (by have := ((I.mem_live a).mp ha).1; omega) ha hv⟩)
  | succ n ih =>
    intro i l5 l6 hi h
    have i5 : i < 500 := by omega
    have nx : ∀ l5 l6, (i ∈ live M T → ovB M f t i → ¬ nI (rk M f t (live M T) i) = k) → WK z d j_Mo_ranked 3 [some (vr (some 0)), some (vi f), some (vi t), some (vi k), some (vi (nI (i + 1))), l5, l6] [] M Q := fun l5 l6 hh => ih (i + 1) l5 l6 (by omega) (fun a ha hl hv => by
      by_cases e : a = i
      · rw [e] at hl hv ⊢; exact hh hl hv
      · exact h a (by omega) hl hv)
    refine M_ranked_3 ?_
    rw [hN, if_pos (nI_lt (by omega) (by omega)), nI_clamp (by omega), nI_1]
    refine ⟨ix_nI i5 (by decide), ?_⟩
    by_cases c4 : M 4 i = 0
    · rw [if_pos c4]
      have hl : i ∈ live M T := (I.mem_live i).mpr ⟨by omega, c4⟩
      refine ⟨hd, S_overlaps i5 (fun h1 h2 => onI_1 ?_) (fun hv => onI_0 (nx _ _ (fun _ z => (hv z).elim)))⟩
      have e0 : (0 : Int32) = isum (fun o => if M 4 o = 0 ∧ outB M f t i o = true then (1 : Int32) else 0) (List.range' 0 0) := rfl
      have := L_rk42 (z := z) (d := d) (Q := Q) (M := M) (N := N) (f := f) (t := t) (k := k) hN hN5 hd i5 (fun x5 x6 e5 => ?_) N 0 (by omega)
      · rw [nI_0] at this; exact this
      · rw [isum_live I (fun a ha => if_neg (fun z => ha z.1)), isum_congr (f' := fun o => if outB M f t i o = true then 1 else 0) (fun a ha => by
          by_cases c : outB M f t i a = true
          · rw [if_pos ⟨((I.mem_live a).mp ha).2, c⟩, if_pos c]
          · rw [if_neg (fun z => c z.2), if_neg c]), isum_count] at e5
        have e5 : x5 = nI (rk M f t (live M T) i) := by
          rw [e5]; unfold rk; congr 2; funext o; simp
        split
        · rename_i c; exact q (some i) (Or.inr ⟨i, hl, ⟨h1, h2⟩, rfl, e5.symm.trans c⟩)
        · rename_i c; rw [nI_1]; exact nx _ _ (fun _ _ => by rw [← e5]; exact c)
    · rw [if_neg c4]; exact nx _ _ (fun z _ => (c4 ((I.mem_live i).mp z).2).elim)
theorem S_ranked (I : TI M T N W) (hd : 0 < d) (q : ∀ o, RkR M T f t k o → Q (some (vi (idI o))) M) : WQ z d j_Mo_ranked [vr (some 0), vi f, vi t, vi k] M Q := by
  refine M_ranked_0 ?_
  rw [← nI_0]
  exact L_rk3 I hd q N 0 none none (by omega) (fun a ha => by omega)
end RKR
