/-! ===== cursors ===== -/
/-- what a cursor that stands behind lst takes -/
def folP (K : MT) (l : List Nat) (FL : Nat → List SP) (f : Nat) (lst : Option Nat) (a : Nat) : Bool := (match lst with
  | none => true
  | some j => lessB K j a) && tk K l a FL f
theorem find_first {M : MT} {P : Nat → Bool} {b : Nat} : ∀ {l : List Nat}, l.Pairwise (less M) → b ∈ l → P b = true → (∀ a, a ∈ l → P a = true → a = b ∨ less M b a) → l.find? P = some b := by
  intro l
  induction l with
  | nil => intro _ h; cases h
  | cons x l ih =>
    intro hp hb hP hm
    rw [List.pairwise_cons] at hp
    rw [List.find?_cons]
    cases hx : P x with
    | true =>
      rcases hm x List.mem_cons_self hx with e | e
      · rw [e]
      · rcases List.mem_cons.mp hb with e2 | e2
        · rw [e2]
        · exact (less_asymm e (hp.1 b e2)).elim
    | false =>
      rcases List.mem_cons.mp hb with e2 | e2
      · rw [e2, hx] at hP; cases hP
      · exact ih hp.2 e2 hP (fun a ha => hm a (List.mem_cons_of_mem _ ha))
section CURR
variable {z : Nat × Nat} {d : Nat} {M : MT} {Q : Option AV → MT → Prop} {T : Tr} {N : Nat} {W : Int} {x y : Int32} {FL : Nat → List SP} {nf : Nat}
/-- the least so far -/
def Lst (M : MT) (P : Nat → Bool) (k : Nat) (o : Option Nat) : Prop := (o = none ∧ ∀ a, a < k → M 4 a = 0 → P a = false) ∨ ∃ b, o = some b ∧ b < k ∧ M 4 b = 0 ∧ P b = true ∧ ∀ a, a < k → M 4 a = 0 → P a = true → a = b ∨ less M b a
theorem Lst.fin (I : TI M T N W) {P : Nat → Bool} {o : Option Nat} (h : Lst M P N o) : o = (live M T).find? P := by
  rcases h with ⟨e, h⟩ | ⟨b, e, hb, h4, hP, hm⟩
  · rw [e]; symm
    rw [List.find?_eq_none]
    intro a ha
    have := (I.mem_live a).mp ha
    rw [h a this.1 this.2]; decide
  · rw [e]; symm
    refine find_first I.live_sorted ((I.mem_live b).mpr ⟨hb, h4⟩) hP (fun a ha => ?_)
    have := (I.mem_live a).mp ha
    exact hm a this.1 this.2
theorem Lst.skip {P : Nat → Bool} {k : Nat} {o : Option Nat} (h : Lst M P k o) (hs : M 4 k = 0 → P k = true → ∃ b, o = some b ∧ (k = b ∨ less M b k)) : Lst M P (k + 1) o := by
  rcases h with ⟨e, h⟩ | ⟨b, e, hb, h4, hP, hm⟩
  · refine Or.inl ⟨e, fun a ha h4 => ?_⟩
    by_cases c : a = k
    · subst c
      cases hp : P a with
      | false => rfl
      | true => obtain ⟨b, e2, -⟩ := hs h4 hp; rw [e] at e2; cases e2
    · exact h a (by omega) h4
  · refine Or.inr ⟨b, e, by omega, h4, hP, fun a ha h4' hp => ?_⟩
    by_cases c : a = k
    · subst c
      obtain ⟨b', e2, h⟩ := hs h4' hp
      rw [e] at e2; cases e2; exact h
    · exact hm a (by omega) h4' hp
theorem Lst.take {P : Nat → Bool} {k : Nat} {o : Option Nat} (h : Lst M P k o) (h4 : M 4 k = 0) (hP : P k = true) (hs : ∀ b, o = some b → less M k b) : Lst M P (k + 1) (some k) := by
  refine Or.inr ⟨k, rfl, by omega, h4, hP, fun a ha h4' hp => ?_⟩
  by_cases c : a = k
  · exact Or.inl c
  · right
    rcases h with ⟨e, h⟩ | ⟨b, e, hb, h4, hP, hm⟩
    · rw [h a (by omega) h4'] at hp; cases hp
    · rcases hm a (by omega) h4' hp with e2 | e2
      · rw [e2]; exact hs b e
      · exact less_trans (hs b e) e2
theorem less_E {M1 : MT} (E : E22 M M1) {a b : Nat} : less M1 a b ↔ less M a b := less_cong (fun i => ⟨E 1 i (by decide), E 2 i (by decide)⟩)
theorem L_fol (I : TI M T N W) (hF : RFs M FL nf) {f cu : Nat} {lst : Option Nat} (hf : f < nf) (hcu : cu < 4) (hd : 20 < d) (h25 : M 25 cu = nI f) (h26 : M 26 cu = idI lst) (hl : ∀ j, lst = some j → j < 500) : ∀ (n k : Nat) (o : Option Nat) (M1 : MT), k + n = N → E22 M M1 → Lst M (folP M (live M T) FL f lst) k o → (∀ M2, E22 M M2 → Q (some (vi (idI ((live M T).find? (folP M (live M T) FL f lst))))) M2) → WK z d j_Mo_following 4 [some (vr (some 0)), some (vi (nI cu)), some (vi (idI o)), some (vi (nI k))] [] M1 Q := by
  have hN := I.2.1
  have h8 := hF.1
  intro n
  induction n with
  | zero =>
    intro k o M1 hk E L q
    refine M_following_4 ?_
    have e : k = N := by omega
    subst e
    rw [E 0 10 (by decide), I.1, if_neg (nI_nlt (by omega) (by omega)), L.fin I]
    exact q M1 E
  | succ n ih =>
    intro k o M1 hk E L q
    have hx4 : ix (nI cu) 4 := ix_nI hcu (by decide)
    refine M_following_4 ?_
    rw [E 0 10 (by decide), I.1, if_pos (nI_lt (by omega) (by omega)), nI_clamp (show k < 2 ^ 31 by omega), nI_clamp (show cu < 2 ^ 31 by omega), nI_1, E 4 _ (by decide), E 26 _ (by decide), E 25 _ (by decide), h25, h26]
    refine ⟨ix_nI (by omega) (by decide), ?_⟩
    have skip : ∀ M2, E22 M M2 → (M 4 k = 0 → folP M (live M T) FL f lst k = true → ∃ b, o = some b ∧ (k = b ∨ less M b k)) → WK z d j_Mo_following 4 [some (vr (some 0)), some (vi (nI cu)), some (vi (idI o)), some (vi (nI (k + 1)))] [] M2 Q := fun M2 E2 h => ih (k + 1) o M2 (by omega) E2 (L.skip h) q
    have take : ∀ M2, E22 M M2 → M 4 k = 0 → folP M (live M T) FL f lst k = true → (∀ b, o = some b → less M k b) → WK z d j_Mo_following 4 [some (vr (some 0)), some (vi (nI cu)), some (vi (nI k)), some (vi (nI (k + 1)))] [] M2 Q := fun M2 E2 h4 hP h => ih (k + 1) (some k) M2 (by omega) E2 (L.take h4 hP h) q
    have ob : ∀ b, o = some b → b < 500 := by
      intro b e
      rcases L with ⟨e2, -⟩ | ⟨b', e2, hb, -⟩
      · rw [e2] at e; cases e
      · rw [e2] at e; cases e; omega
    have asks : ∀ M2, E22 M M2 → M 4 k = 0 → (∀ v, tk M (live M T) k FL f = v → folP M (live M T) FL f lst k = v) → (∀ b, o = some b → less M k b) → 0 < d ∧ WQ z (d - 1) j_Mo_takes [vr (some 0), vi (nI f), vi (nI k)] M2 (fun v2 M1 => onI v2 fun x4 => if x4 = (0 : Int32) then (WK z d j_Mo_following 4 [some (vr (some 0)), some (vi (nI cu)), some (vi (idI o)), some (vi (nI (k + 1)))] [] M1 Q) else (WK z d j_Mo_following 4 [some (vr (some 0)), some (vi (nI cu)), some (vi (nI k)), some (vi (nI (k + 1)))] [] M1 Q)) := by
      intro M2 E2 h4 hv hb
      refine ⟨by omega, S_takes I h8 (fun f hf => hF.2.2 f hf) (by omega) f (d - 1) M2 _ hf (by omega) E2 (fun M3 E3 _ => ?_)⟩
      cases ht : tk M (live M T) k FL f with
      | false => exact onI_0 (skip M3 E3 (fun _ h => by rw [hv _ ht] at h; cases h))
      | true => exact onI_1 (take M3 E3 h4 (hv _ ht) hb)
    have second : ∀ M2, E22 M M2 → M 4 k = 0 → (∀ v, tk M (live M T) k FL f = v → folP M (live M T) FL f lst k = v) → ∀ b, o = some b → 0 < d ∧ WQ z (d - 1) j_Mo_isLess [vr (some 0), vi (nI k), vi (nI b)] M2 (fun v8 M7 => onI v8 fun x10 => if x10 = (0 : Int32) then (WK z d j_Mo_following 4 [some (vr (some 0)), some (vi (nI cu)), some (vi (idI o)), some (vi (nI (k + 1)))] [] M7 Q) else (ix (nI cu) 4 ∧ 0 < d ∧ WQ z (d - 1) j_Mo_takes [vr (some 0), vi (M7 25 cu), vi (nI k)] M7 (fun v12 M11 => onI v12 fun x14 => if x14 = (0 : Int32) then (WK z d j_Mo_following 4 [some (vr (some 0)), some (vi (nI cu)), some (vi (idI o)), some (vi (nI (k + 1)))] [] M11 Q) else (WK z d j_Mo_following 4 [some (vr (some 0)), some (vi (nI cu)), some (vi (nI k)), some (vi (nI (k + 1)))] [] M11 Q)))) := by
      intro M2 E2 h4 hv b eb
      have hb5 := ob b eb
      refine ⟨by omega, S_isLess (by omega) hb5 (fun h => onI_1 ⟨hx4, ?_⟩) (fun h => onI_0 (skip M2 E2 (fun _ _ => ⟨b, eb, ?_⟩)))⟩
      · rw [E2 25 _ (by decide), h25]
        exact asks M2 E2 h4 hv (fun b' e' => by rw [eb] at e'; cases e'; exact (less_E E2).mp h)
      · by_cases c : k = b
        · exact Or.inl c
        · exact Or.inr (less_tri (fun z => h ((less_E E2).mpr z)) c)
    split
    · rename_i h4
      refine ⟨hx4, ?_⟩
      cases hlst : lst with
      | none =>
        rw [if_pos (show idI none = -1 from rfl)]
        have hv : ∀ v, tk M (live M T) k FL f = v → folP M (live M T) FL f lst k = v := fun v e => by rw [hlst]; unfold folP; rw [e]; rfl
        cases ho : o with
        | none =>
          rw [if_pos (show idI none = -1 from rfl)]
          have := asks M1 E h4 hv (fun b e => by rw [ho] at e; cases e)
          rw [ho] at this
          exact ⟨hx4, this⟩
        | some b =>
          rw [if_neg (show ¬ idI (some b) = -1 from nI_m1 (by have := ob b ho; omega))]
          have := second M1 E h4 hv b ho
          rw [ho] at this
          exact this
      | some j =>
        have hj := hl j hlst
        rw [if_neg (show ¬ idI (some j) = -1 from nI_m1 (by omega))]
        refine ⟨hx4, by omega, S_isLess hj (by omega) (fun h => onI_1 ?_) (fun h => onI_0 (skip M1 E (fun _ hp => ?_)))⟩
        · have hv : ∀ v, tk M (live M T) k FL f = v → folP M (live M T) FL f lst k = v := fun v e => by rw [hlst]; unfold folP; rw [e]; show (lessB M j k && v) = v; rw [lessB_iff.mpr ((less_E E).mp h)]; rfl
          cases ho : o with
          | none =>
            rw [if_pos (show idI none = -1 from rfl), E 25 _ (by decide), h25]
            have := asks M1 E h4 hv (fun b e => by rw [ho] at e; cases e)
            rw [ho] at this
            exact ⟨hx4, this⟩
          | some b =>
            rw [if_neg (show ¬ idI (some b) = -1 from nI_m1 (by have := ob b ho; omega))]
            have := second M1 E h4 hv b ho
            rw [ho] at this
            exact this
        · rw [hlst] at hp
          unfold folP at hp
          have hp : (lessB M j k && tk M (live M T) k FL f) = true := hp
          rw [Bool.and_eq_true] at hp
          exact (h ((less_E E).mpr (lessB_iff.mp hp.1))).elim
    · rename_i h4
      exact skip M1 E (fun h => (h4 h).elim)
theorem S_fol (I : TI M T N W) (hF : RFs M FL nf) {f cu : Nat} {lst : Option Nat} (hf : f < nf) (hcu : cu < 4) (hd : 20 < d) (h25 : M 25 cu = nI f) (h26 : M 26 cu = idI lst) (hl : ∀ j, lst = some j → j < 500) (q : ∀ M2, E22 M M2 → Q (some (vi (idI ((live M T).find? (folP M (live M T) FL f lst))))) M2) : WQ z d j_Mo_following [vr (some 0), vi (nI cu)] M Q := by
  refine M_following_0 ?_
  rw [← nI_0]
  exact L_fol I hF hf hcu hd h25 h26 hl N 0 none M (by omega) E22.refl (Or.inl ⟨rfl, fun a ha => absurd ha (Nat.not_lt_zero _)⟩) q
end CURR
