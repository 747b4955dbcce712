section ASKS
variable {z : Nat × Nat} {d : Nat} {M : MT} {Q : Option AV → MT → Prop} {N : Nat} {x y : Int32}
theorem Laid.of {M' : MT} {l : List Nat} (hN5 : N ≤ 500) (h1 : RowIs M' l) (h2 : M' 0 17 = nI l.length) (h3 : LiveRow M N l) : Laid M' l :=
  ⟨h1, h2, by have := h3.2.2; omega, fun a ha => by have := ((h3.2.1 a).mp ha).1; omega⟩
theorem S_ceiling (hN : M 0 10 = nI N) (hN5 : N ≤ 500) (hd : 1 < d) (q : ∀ (l : List Nat) (M' : MT), LiveRow M N l → PRow M M' → Q (some (vi (idI (l.find? fun a => decide (x.toInt ≤ (M 1 a).toInt))))) M') : WQ z d j_Mo_ceiling [vr (some 0), vi x] M Q := by
  refine M_ceiling_0 ⟨by omega, S_layRow hN hN5 (by omega) fun l M' hp h1 h2 h3 => ?_⟩
  have e : (fun a => decide (x.toInt ≤ (M' 1 a).toInt)) = fun a => decide (x.toInt ≤ (M 1 a).toInt) := by
    funext a; rw [hp 1 a (by decide) (by omega)]
  rw [← nI_0]
  refine L_ceiling l [] (Laid.of hN5 h1 h2 h3) ?_
  rw [e]; exact q l M' h3 hp
theorem S_floor (hN : M 0 10 = nI N) (hN5 : N ≤ 500) (hd : 1 < d) (q : ∀ (l : List Nat) (M' : MT), LiveRow M N l → PRow M M' → Q (some (vi (idI (l.foldl (fun o a => if (M 1 a).toInt ≤ x.toInt then some a else o) none)))) M') : WQ z d j_Mo_floor [vr (some 0), vi x] M Q := by
  refine M_floor_0 ⟨by omega, S_layRow hN hN5 (by omega) fun l M' hp h1 h2 h3 => ?_⟩
  have e : (fun (o : Option Nat) a => if (M' 1 a).toInt ≤ x.toInt then some a else o) = fun o a => if (M 1 a).toInt ≤ x.toInt then some a else o := by
    funext o a; rw [hp 1 a (by decide) (by omega)]
  rw [← nI_0]
  refine L_floor l [] none (Laid.of hN5 h1 h2 h3) ?_
  rw [e]; exact q l M' h3 hp
theorem L_firstOverlap (hd : 0 < d) : ∀ (suf pre : List Nat), Laid M (pre ++ suf) → Q (some (vi (idI (suf.find? fun a => decide ((M 1 a).toInt ≤ y.toInt ∧ x.toInt ≤ (M 2 a).toInt))))) M → WK z d j_Mo_firstOverlap 22 [some (vr (some 0)), some (vi x), some (vi y), some (vi (nI pre.length))] [] M Q := by
  intro suf
  induction suf with
  | nil =>
    intro pre h q
    refine M_firstOverlap_22 ?_
    rw [if_neg h.fin]; exact q
  | cons a suf ih =>
    intro pre h q
    obtain ⟨h1, h2, h3, h4, h5, h6, h7, h8⟩ := h.at
    refine M_firstOverlap_22 ?_
    rw [if_pos h1, h3, h7]
    refine ⟨h2, hd, S_overlaps h6 ?_ ?_⟩
    · intro c1 c2
      rw [List.find?_cons_of_pos (by simp; omega)] at q
      exact onI_1 ⟨h2, by rw [h3]; exact q⟩
    · intro c
      rw [List.find?_cons_of_neg (by simpa using c)] at q
      exact onI_0 (ih _ h8 q)
theorem S_firstOverlap (hN : M 0 10 = nI N) (hN5 : N ≤ 500) (hd : 1 < d) (q1 : y.toInt < x.toInt → Q (some (vi 0)) (thn M 1)) (q2 : ¬ y.toInt < x.toInt → ∀ (l : List Nat) (M' : MT), LiveRow M N l → PRow (thn M 0) M' → Q (some (vi (idI (l.find? fun a => decide ((M 1 a).toInt ≤ y.toInt ∧ x.toInt ≤ (M 2 a).toInt))))) M') : WQ z d j_Mo_firstOverlap [vr (some 0), vi x, vi y] M Q := by
  refine M_firstOverlap_0 ?_
  split
  · rename_i c; rw [i_lt] at c; exact S_fails' (by omega) (q1 c)
  · rename_i c; rw [i_lt] at c
    refine ⟨by omega, S_layRow (N := N) (by rw [up2_ne (by decide)]; exact hN) hN5 (by omega) fun l M' hp h1 h2 h3 => ?_⟩
    have e : (fun a => decide ((M' 1 a).toInt ≤ y.toInt ∧ x.toInt ≤ (M' 2 a).toInt)) = fun a => decide ((M 1 a).toInt ≤ y.toInt ∧ x.toInt ≤ (M 2 a).toInt) := by
      funext a; rw [hp 1 a (by decide) (by omega), hp 2 a (by decide) (by omega), up2_ne (by omega), up2_ne (by omega)]
    have h4 : LiveRow M N l := by
      refine ⟨h3.1.imp (fun {a b} w => ?_), fun b => ?_, h3.2.2⟩
      · unfold less at *; simp only [up2_ne (show ¬ (1 = 0 ∧ a = 0) by omega), up2_ne (show ¬ (1 = 0 ∧ b = 0) by omega), up2_ne (show ¬ (2 = 0 ∧ a = 0) by omega), up2_ne (show ¬ (2 = 0 ∧ b = 0) by omega)] at w; exact w
      · have := h3.2.1 b; rw [up2_ne (by omega)] at this; exact this
    rw [← nI_0]
    refine L_firstOverlap (by omega) l [] (Laid.of hN5 h1 h2 h3) ?_
    rw [e]; exact q2 c l M' h4 hp
end ASKS
