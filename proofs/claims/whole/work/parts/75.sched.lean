/-! ===== schedules ===== -/
def bf (M : MT) : Nat → List Nat → Int
  | 0, _ => 0
  | _ + 1, [] => 0
  | f + 1, a :: l => if M 4 a = 0 then max (bf M f l) ((M 3 a).toInt + bf M f (l.filter fun b => decide ((M 2 a).toInt < (M 1 b).toInt))) else bf M f l
theorem bf_st {M : MT} : ∀ (f f' : Nat) (l : List Nat), l.length ≤ f → l.length ≤ f' → bf M f l = bf M f' l := by
  intro f
  induction f with
  | zero =>
    intro f' l h _
    have : l = [] := List.length_eq_zero_iff.mp (by omega)
    subst this
    cases f' <;> rfl
  | succ f ih =>
    intro f' l h h'
    cases l with
    | nil => cases f' <;> rfl
    | cons a l =>
      cases f' with
      | zero => simp at h'
      | succ f' =>
        rw [List.length_cons] at h h'
        have hf := List.length_filter_le (fun b => decide ((M 2 a).toInt < (M 1 b).toInt)) l
        show (if M 4 a = 0 then max (bf M f l) ((M 3 a).toInt + bf M f (l.filter _)) else bf M f l) = (if M 4 a = 0 then max (bf M f' l) ((M 3 a).toInt + bf M f' (l.filter _)) else bf M f' l)
        rw [ih f' l (by omega) (by omega), ih f' (l.filter _) (by omega) (by omega)]
def bl (M : MT) (l : List Nat) : Int := bf M l.length l
theorem bl_nil {M : MT} : bl M [] = 0 := rfl
theorem bl_cons {M : MT} {a : Nat} {l : List Nat} : bl M (a :: l) = if M 4 a = 0 then max (bl M l) ((M 3 a).toInt + bl M (l.filter fun b => decide ((M 2 a).toInt < (M 1 b).toInt))) else bl M l := by
  have hf := List.length_filter_le (fun b => decide ((M 2 a).toInt < (M 1 b).toInt)) l
  show (if M 4 a = 0 then max (bf M l.length l) ((M 3 a).toInt + bf M l.length (l.filter _)) else bf M l.length l) = _
  unfold bl
  rw [bf_st l.length (l.filter fun b => decide ((M 2 a).toInt < (M 1 b).toInt)).length (l.filter fun b => decide ((M 2 a).toInt < (M 1 b).toInt)) hf (Nat.le_refl _)]
theorem bl_live {M : MT} : ∀ (n : Nat) (l : List Nat), l.length ≤ n → bl M (l.filter fun x => decide (M 4 x = 0)) = bl M l := by
  intro n
  induction n with
  | zero =>
    intro l h
    have e : l = [] := List.length_eq_zero_iff.mp (by omega)
    rw [e]; rfl
  | succ n ih =>
    intro l h
    cases l with
    | nil => rfl
    | cons a l =>
      rw [List.length_cons] at h
      have hf := List.length_filter_le (fun b => decide ((M 2 a).toInt < (M 1 b).toInt)) l
      rw [List.filter_cons, bl_cons]
      by_cases c : M 4 a = 0
      · rw [if_pos (decide_eq_true c), if_pos c, bl_cons, if_pos c, ih l (by omega)]
        congr 2
        rw [← ih (l.filter fun b => decide ((M 2 a).toInt < (M 1 b).toInt)) (by omega)]
        rw [List.filter_filter, List.filter_filter]
        congr 1
        exact (List.filter_congr (fun x _ => Bool.and_comm _ _))
      · rw [if_neg (by rw [decide_eq_false c]; decide), if_neg c]; exact ih l (by omega)
theorem bl_bd {M : MT} {W : Int} (hW : 0 ≤ W) : ∀ (n : Nat) (l : List Nat), l.length ≤ n → (∀ a ∈ l, -W ≤ (M 3 a).toInt ∧ (M 3 a).toInt ≤ W) → 0 ≤ bl M l ∧ bl M l ≤ l.length * W := by
  intro n
  induction n with
  | zero =>
    intro l h _
    have e : l = [] := List.length_eq_zero_iff.mp (by omega)
    rw [e]; exact ⟨Int.le_refl _, by rw [bl_nil]; simp⟩
  | succ n ih =>
    intro l h hw
    cases l with
    | nil => exact ⟨Int.le_refl _, by rw [bl_nil]; simp⟩
    | cons a l =>
      rw [List.length_cons] at h ⊢
      have hf := List.length_filter_le (fun b => decide ((M 2 a).toInt < (M 1 b).toInt)) l
      have h1 := ih l (by omega) (fun x hx => hw x (List.mem_cons_of_mem _ hx))
      have h2 := ih (l.filter fun b => decide ((M 2 a).toInt < (M 1 b).toInt)) (by omega) (fun x hx => hw x (List.mem_cons_of_mem _ (List.mem_filter.mp hx).1))
      have ha := hw a List.mem_cons_self
      have hm : ((l.filter fun b => decide ((M 2 a).toInt < (M 1 b).toInt)).length : Int) * W ≤ (l.length : Int) * W := Int.mul_le_mul_of_nonneg_right (by omega) hW
      have he : ((l.length + 1 : Nat) : Int) * W = (l.length : Int) * W + W := by
        rw [Int.natCast_add, Int.add_mul]; simp
      rw [bl_cons, he]
      split <;> omega
def bI (M : MT) (l : List Nat) : Int32 := Int32.ofInt (bl M l)
/-- the i-th of a schedule -/
def schF (M : MT) (i : Int32) : List Nat → Int → Nat → Option Nat
  | [], _, _ => none
  | a :: l, bd, n => if (M 1 a).toInt ≤ bd then schF M i l bd n else if bl M l < bl M (a :: l) then (if nI n = i then some a else schF M i l (M 2 a).toInt (n + 1)) else schF M i l bd n
section SCHR
variable {z : Nat × Nat} {d : Nat} {M M0 : MT} {Q : Option AV → MT → Prop} {N : Nat} {x : Int32} {T : Tr} {W : Int}
/-- what the sums need -/
def Wok (M : MT) (row : List Nat) (W : Int) : Prop := 0 ≤ W ∧ W ≤ 1000000 ∧ row.length ≤ 100 ∧ (∀ a ∈ row, -W ≤ (M 3 a).toInt ∧ (M 3 a).toInt ≤ W) ∧ (∀ a ∈ row, M 4 a = 0 ∧ (M 1 a).toInt ≤ (M 2 a).toInt) ∧ row.Pairwise (less M)
theorem Wok.sub {row : List Nat} (h : Wok M row W) {l : List Nat} (hl : ∀ x ∈ l, x ∈ row) (hlen : l.length ≤ 100) : 0 ≤ bl M l ∧ bl M l ≤ 100000000 ∧ (bI M l).toInt = bl M l := by
  have := bl_bd h.1 l.length l (Nat.le_refl _) (fun a ha => h.2.2.2.1 a (hl a ha))
  have h2 : (l.length : Int) * W ≤ 100 * 1000000 := Int.mul_le_mul (by omega) h.2.1 h.1 (by omega)
  refine ⟨this.1, by omega, ?_⟩
  unfold bI
  rw [Int32.toInt_ofInt]; exact bm (by omega) (by omega)
theorem sorted_split {row : List Nat} (hs : row.Pairwise (less M)) (p : Int) : ∀ {P S : List Nat}, row = P ++ S → (∀ a ∈ P, (M 1 a).toInt ≤ p) → (S = [] ∨ ∃ b S', S = b :: S' ∧ p < (M 1 b).toInt) → S = row.filter fun b => decide (p < (M 1 b).toInt) := by
  intro P S h hP hS
  rw [h, List.filter_append, List.filter_eq_nil_iff.mpr (fun a ha => by rw [decide_eq_true_iff]; have := hP a ha; omega), List.nil_append]
  refine (List.filter_eq_self.mpr (fun a ha => decide_eq_true ?_)).symm
  rcases hS with e | ⟨b, S', e, hb⟩
  · rw [e] at ha; cases ha
  · rw [h, List.pairwise_append, e, List.pairwise_cons] at hs
    rw [e] at ha
    rcases List.mem_cons.mp ha with rfl | ha
    · exact hb
    · have := less_lo (hs.2.1.1 a ha); omega
theorem S_behind {row : List Nat} (L : Laid M row) (hs : row.Pairwise (less M)) (q : ∀ P S, row = P ++ S → S = (row.filter fun b => decide (x.toInt < (M 1 b).toInt)) → Q (some (vi (nI P.length))) M) : WQ z d j_Mo_behind [vr (some 0), vi x] M Q := by
  have loop : ∀ (S P : List Nat), row = P ++ S → (∀ a ∈ P, (M 1 a).toInt ≤ x.toInt) → WK z d j_Mo_behind 2 [some (vr (some 0)), some (vi x), some (vi (nI P.length))] [] M Q := by
    intro S
    induction S with
    | nil =>
      intro P h hP
      refine M_behind_2 ?_
      rw [if_neg (Laid.fin (h ▸ L : Laid M (P ++ [])))]
      exact q P [] h (sorted_split hs _ h hP (Or.inl rfl))
    | cons a S ih =>
      intro P h hP
      obtain ⟨h1, h2, h3, h4, h5, h6, h7, h8⟩ := Laid.at (h ▸ L : Laid M (P ++ a :: S))
      refine M_behind_2 ?_
      rw [if_pos h1, h3, h5, h7]
      refine ⟨h2, h4, ?_⟩
      split
      · rename_i c; rw [i_lt] at c
        exact q P (a :: S) h (sorted_split hs _ h hP (Or.inr ⟨a, S, rfl, c⟩))
      · rename_i c; rw [i_lt] at c
        exact ih (P ++ [a]) (by rw [h]; simp) (fun b hb => by
          rcases List.mem_append.mp hb with hb | hb
          · exact hP b hb
          · rw [List.mem_singleton.mp hb]; omega)
  refine M_behind_0 ?_
  have := loop row [] rfl (fun a ha => by cases ha)
  rw [show nI ([] : List Nat).length = (0 : Int32) from rfl] at this
  exact this
def PBest (M M' : MT) : Prop := ∀ r i, r ≠ 13 → M' r i = M r i
set_option maxRecDepth 8000 in
theorem L_best21 {row : List Nat} (hd : 0 < d) (L : Laid M0 row) (hW : Wok M0 row W) (q : ∀ M', PBest M0 M' → (∀ P S, row = P ++ S → M' 13 P.length = bI M0 S) → Q none M') : ∀ (P S : List Nat) (M : MT), row = P ++ S → PBest M0 M → (∀ P' S', row = P' ++ S' → P.length ≤ P'.length → M 13 P'.length = bI M0 S') → WK z d j_Mo_layBest 21 [some (vr (some 0)), some (vi (nI P.length - 1))] [] M Q := by
  have hlen := hW.2.2.1
  have key : ∀ (n : Nat) (P S : List Nat) (M : MT), P.length = n → row = P ++ S → PBest M0 M → (∀ P' S', row = P' ++ S' → P.length ≤ P'.length → M 13 P'.length = bI M0 S') → WK z d j_Mo_layBest 21 [some (vr (some 0)), some (vi (nI P.length - 1))] [] M Q := by
    intro n
    induction n with
    | zero =>
      intro P S M hn h hp hb
      have hP : P = [] := List.length_eq_zero_iff.mp hn
      subst hP
      refine M_layBest_21 ?_
      rw [if_pos (by decide)]
      exact q M hp (fun P' S' h' => hb P' S' h' (Nat.zero_le _))
    | succ n ih =>
      intro P S M hn h hp hb
      rcases List.eq_nil_or_concat P with e | ⟨P1, a, e⟩
      · rw [e] at hn; simp at hn
      · rw [List.concat_eq_append] at e
        subst e
        have hn1 : P1.length = n := by rw [List.length_append] at hn; simp at hn; omega
        have hL : Laid M (P1 ++ a :: S) := by
          have h' : row = P1 ++ a :: S := by rw [h]; simp
          rw [← h']
          exact ⟨fun j b hj => by rw [hp 9 j (by decide)]; exact L.1 j b hj, by rw [hp 0 17 (by decide)]; exact L.2.1, L.2.2.1, L.2.2.2⟩
        have h' : row = P1 ++ a :: S := by rw [h]; simp
        obtain ⟨h1, h2, h3, h4, h5, h6, h7, h8⟩ := hL.at
        have harow : a ∈ row := by rw [h']; simp
        have hlr : row.length = P1.length + (S.length + 1) := by rw [h', List.length_append, List.length_cons]
        have eidx : nI (P1 ++ [a]).length - 1 = nI P1.length := by
          rw [show (P1 ++ [a]).length = P1.length + 1 by simp, nI_pred]
        refine M_layBest_21 ?_
        rw [eidx, if_neg (by rw [← nI_0]; exact nI_nlt (Nat.zero_le _) (by omega)), h3, h5, nI_1, nI_clamp (show P1.length + 1 < 2 ^ 31 by omega), nI_clamp (show P1.length < 2 ^ 31 by omega)]
        have hs' : row.Pairwise (less M) := hW.2.2.2.2.2.imp (fun {u v} z => (less_cong (fun i => ⟨hp 1 i (by decide), hp 2 i (by decide)⟩)).mpr z)
        refine ⟨ix_nI (by omega) (by decide), h2, h4, h2, h4, hd, S_behind (row := row) (by rw [h']; exact hL) hs' (fun P2 S2 e2 eS => onI_v ?_)⟩
        have hr2 : M 2 a = M0 2 a := hp 2 a (by decide)
        have hr3 : M 3 a = M0 3 a := hp 3 a (by decide)
        have eS' : S2 = S.filter fun b => decide ((M0 2 a).toInt < (M0 1 b).toInt) := by
          rw [eS, hr2, h', List.filter_append, List.filter_cons]
          have hsort := hW.2.2.2.2.2
          rw [h', List.pairwise_append, List.pairwise_cons] at hsort
          have haa := (hW.2.2.2.2.1 a harow).2
          rw [List.filter_eq_nil_iff.mpr (fun b hb' => by rw [decide_eq_true_iff, hp 1 b (by decide)]; have := less_lo (hsort.2.2 b hb' a List.mem_cons_self); omega), List.nil_append, if_neg (by rw [decide_eq_true_iff, hp 1 a (by decide)]; omega)]
          exact List.filter_congr (fun b _ => by rw [hp 1 b (by decide)])
        have hS2l : S2.length ≤ S.length := by rw [eS']; exact List.length_filter_le _ _
        have hP2 : (P1 ++ [a]).length ≤ P2.length := by
          have : row.length = P2.length + S2.length := by rw [e2, List.length_append]
          rw [show (P1 ++ [a]).length = P1.length + 1 by simp]; omega
        have hP2l : P2.length ≤ 100 := by have : row.length = P2.length + S2.length := by rw [e2, List.length_append]
                                          omega
        have b1 := hb (P1 ++ [a]) S h (Nat.le_refl _)
        rw [show (P1 ++ [a]).length = P1.length + 1 by simp] at b1
        have b2 := hb P2 S2 e2 hP2
        refine ⟨ix_nI (by omega) (by decide), ix_nI (by omega) (by decide), fun M5 e5 => ?_⟩
        rw [nI_clamp (show P2.length < 2 ^ 31 by omega), b1, b2, hr3] at e5
        have hSr : ∀ z ∈ S, z ∈ row := fun z hz => by rw [h']; simp [hz]
        have w1 := hW.sub (l := S) hSr (by omega)
        have w2 := hW.sub (l := S2) (fun z hz => hSr z (by rw [eS'] at hz; exact (List.mem_filter.mp hz).1)) (by omega)
        have w3 := hW.sub (l := a :: S) (fun z hz => (List.mem_cons.mp hz).elim (fun e => by rw [e]; exact harow) (hSr z)) (by simp; omega)
        have wa := hW.2.2.2.1 a harow
        have w10 := hW.2.1
        have ev : (if bI M0 S < M0 3 a + bI M0 S2 then M0 3 a + bI M0 S2 else bI M0 S) = bI M0 (a :: S) := by
          rw [i_eq, i_max, i_add (by rw [w2.2.2]; omega) (by rw [w2.2.2]; omega), w1.2.2, w2.2.2, w3.2.2, bl_cons, if_pos (hW.2.2.2.2.1 a harow).1, ← eS']
        rw [ev] at e5
        have enext : nI P1.length + (-1) = nI P1.length - 1 := (Int32.sub_eq_add_neg _ _).symm
        rw [enext]
        refine ih P1 (a :: S) M5 hn1 h' (fun r i hr => by rw [e5, up2_ne (by omega)]; exact hp r i hr) (fun P' S' hh hl => ?_)
        rw [e5]
        by_cases c : P'.length = P1.length
        · have : P' = P1 ∧ S' = a :: S := List.append_inj (hh.symm.trans h') c
          rw [this.1, this.2, up2_at]
        · rw [up2_ne (by omega)]
          exact hb P' S' hh (by rw [show (P1 ++ [a]).length = P1.length + 1 by simp]; omega)
  exact fun P S M h hp hb => key P.length P S M rfl h hp hb
end SCHR
