/-! ===== nearest, overlapCount ===== -/
def far (M : MT) (x : Int32) (a : Nat) : Int32 := if x < M 1 a then M 1 a - x else if M 2 a < x then x - M 2 a else 0
def nrF (M : MT) (x : Int32) : List Nat → Option Nat → Int32 → Option Nat
  | [], o, _ => o
  | a :: l, o, e => if o = none ∨ far M x a < e then nrF M x l (some a) (far M x a) else nrF M x l o e
def oc (f : Nat → Nat → Int32) : List Nat → Int32
  | [] => 0
  | a :: s => isum (f a) s + oc f s
def ovl (M : MT) (a b : Nat) : Int32 := if (M 1 a).toInt ≤ (M 2 b).toInt ∧ (M 1 b).toInt ≤ (M 2 a).toInt then 1 else 0
theorem nrF_congr {M M' : MT} {x : Int32} (h : ∀ a, M' 1 a = M 1 a ∧ M' 2 a = M 2 a) : ∀ {l : List Nat} {o : Option Nat} {e : Int32}, nrF M' x l o e = nrF M x l o e := by
  have hf : ∀ a, far M' x a = far M x a := fun a => by unfold far; rw [(h a).1, (h a).2]
  intro l
  induction l with
  | nil => intro o e; rfl
  | cons a l ih => intro o e; show (if _ then _ else _) = (if _ then _ else _); rw [hf, ih, ih]
section NEARR
variable {z : Nat × Nat} {d : Nat} {M : MT} {Q : Option AV → MT → Prop} {N : Nat} {x y : Int32}
theorem L_near : ∀ (suf pre : List Nat) (o : Option Nat) (e : Int32) (l5 l6 : Option AV), Laid M (pre ++ suf) → (∀ a, o = some a → a < 500) → Q (some (vi (idI (nrF M x suf o e)))) M → WK z d j_Mo_nearest 35 [some (vr (some 0)), some (vi x), some (vi (idI o)), some (vi e), some (vi (nI pre.length)), l5, l6] [] M Q := by
  intro suf
  induction suf with
  | nil =>
    intro pre o e l5 l6 h _ q
    refine M_nearest_35 ?_
    rw [if_neg h.fin]; exact q
  | cons a suf ih =>
    intro pre o e l5 l6 h ho q
    obtain ⟨h1, h2, h3, h4, h5, h6, h7, h8⟩ := h.at
    have q : Q (some (vi (idI (if o = none ∨ far M x a < e then nrF M x suf (some a) (far M x a) else nrF M x suf o e)))) M := q
    have ha : ∀ b, some a = some b → b < 500 := fun b hb => by cases hb; exact h6
    have hne : (idI o = -1) ↔ o = none := by
      cases o with
      | none => exact ⟨fun _ => rfl, fun _ => rfl⟩
      | some b => exact ⟨fun c => (nI_m1 (n := b) (by have := ho b rfl; omega) c).elim, fun c => by cases c⟩
    refine M_nearest_35 ?_
    rw [if_pos h1, h3, h5, h7]
    refine ⟨h2, h4, ?_⟩
    have fin : ∀ f : Int32, far M x a = f → (if idI o = -1 then WK z d j_Mo_nearest 35 [some (vr (some 0)), some (vi x), some (vi (nI a)), some (vi f), some (vi (nI (pre ++ [a]).length)), some (vi (nI a)), some (vi f)] [] M Q else if f < e then WK z d j_Mo_nearest 35 [some (vr (some 0)), some (vi x), some (vi (nI a)), some (vi f), some (vi (nI (pre ++ [a]).length)), some (vi (nI a)), some (vi f)] [] M Q else WK z d j_Mo_nearest 35 [some (vr (some 0)), some (vi x), some (vi (idI o)), some (vi e), some (vi (nI (pre ++ [a]).length)), some (vi (nI a)), some (vi f)] [] M Q) := by
      intro f hf
      rw [hf] at q
      split
      · rename_i c
        rw [if_pos (Or.inl (hne.mp c))] at q
        exact ih (pre ++ [a]) (some a) f _ _ h8 ha q
      · rename_i c
        split
        · rename_i c2
          rw [if_pos (Or.inr c2)] at q
          exact ih (pre ++ [a]) (some a) f _ _ h8 ha q
        · rename_i c2
          rw [if_neg (fun k => k.elim (fun k => c (hne.mpr k)) c2)] at q
          exact ih (pre ++ [a]) o e _ _ h8 ho q
    split
    · rename_i c
      exact ⟨h4, fin _ (by unfold far; rw [if_pos c])⟩
    · rename_i c
      refine ⟨h4, ?_⟩
      split
      · rename_i c2
        exact ⟨h4, fin _ (by unfold far; rw [if_neg c, if_pos c2])⟩
      · rename_i c2
        exact fin _ (by unfold far; rw [if_neg c, if_neg c2])
theorem S_nearest (hN : M 0 10 = nI N) (hN5 : N ≤ 500) (hd : 2 < d) (q1 : ¬ (-2000 ≤ x.toInt ∧ x.toInt ≤ 2000) → Q (some (vi 0)) (thn M 1)) (q2 : -2000 ≤ x.toInt ∧ x.toInt ≤ 2000 → ∀ (l : List Nat) (M' : MT), LiveRow M N l → PRow (thn M 0) M' → Q (some (vi (idI (nrF M x l none 0)))) M') : WQ z d j_Mo_nearest [vr (some 0), vi x] M Q := by
  refine M_nearest_0 ⟨by omega, S_in (fun c => onI_1 ⟨by omega, S_layRow (N := N) (by rw [up2_ne (by omega)]; exact hN) hN5 (by omega) fun l M' hp h1 h2 h3 => ?_⟩) (fun c => onI_0 (S_fails' (by omega) (q1 c)))⟩
  have h3 := thn_live h3
  have := L_near (z := z) (d := d) (Q := Q) (x := x) (M := M') l [] none 0 none none (Laid.of hN5 h1 h2 h3) (fun a ha => by cases ha) (by
    rw [nrF_congr (M := M) (fun a => ⟨by rw [hp 1 a (by decide) (by omega), up2_ne (by omega)], by rw [hp 2 a (by decide) (by omega), up2_ne (by omega)]⟩)]
    exact q2 c l M' h3 hp)
  rw [show nI ([] : List Nat).length = (0 : Int32) from rfl] at this
  exact this
theorem L_oc20 {a : Nat} {pre0 : List Nat} {cont : Int32 → Prop} (ha5 : a < 500) (hp0 : M 9 pre0.length = nI a) (hp5 : pre0.length < 500) (hd : 0 < d) (hc : ∀ acc x3, cont acc → WK z d j_Mo_overlapCount 8 [some (vr (some 0)), some (vi acc), some (vi (nI pre0.length + 1)), x3] [] M Q) : ∀ (suf pre : List Nat) (acc : Int32), Laid M (pre ++ suf) → cont (acc + isum (ovl M a) suf) → WK z d j_Mo_overlapCount 20 [some (vr (some 0)), some (vi acc), some (vi (nI pre0.length)), some (vi (nI pre.length))] [] M Q := by
  intro suf
  induction suf with
  | nil =>
    intro pre acc h q
    refine M_overlapCount_20 ?_
    rw [if_neg h.fin]
    rw [show isum (ovl M a) [] = (0 : Int32) from rfl, i32_zero] at q
    exact hc acc _ q
  | cons b suf ih =>
    intro pre acc h q
    obtain ⟨h1, h2, h3, h4, h5, h6, h7, h8⟩ := h.at
    rw [show isum (ovl M a) (b :: suf) = ovl M a b + isum (ovl M a) suf from rfl, ← i32_assoc] at q
    refine M_overlapCount_20 ?_
    rw [if_pos h1, h3, h5, h7, nI_clamp (by omega), hp0]
    refine ⟨ix_nI hp5 (by decide), h2, h4, h2, h4, hd, S_overlaps ha5 (fun c1 c2 => onI_1 ?_) (fun c => onI_0 ?_)⟩
    · unfold ovl at q; rw [if_pos ⟨c1, c2⟩] at q
      exact ih (pre ++ [b]) _ h8 q
    · rw [show ovl M a b = 0 by unfold ovl; rw [if_neg c]] at q
      exact ih (pre ++ [b]) _ h8 q
theorem L_oc8 (hd : 0 < d) : ∀ (suf pre : List Nat) (acc : Int32) (l3 : Option AV), Laid M (pre ++ suf) → Q (some (vi (acc + oc (ovl M) suf))) M → WK z d j_Mo_overlapCount 8 [some (vr (some 0)), some (vi acc), some (vi (nI pre.length)), l3] [] M Q := by
  intro suf
  induction suf with
  | nil =>
    intro pre acc l3 h q
    refine M_overlapCount_8 ?_
    rw [if_neg h.fin]
    rw [show oc (ovl M) [] = (0 : Int32) from rfl, i32_zero] at q
    exact q
  | cons a suf ih =>
    intro pre acc l3 h q
    obtain ⟨h1, h2, h3, h4, h5, h6, h7, h8⟩ := h.at
    have hp5 : pre.length < 500 := by have := h.2.2.1; rw [List.length_append, List.length_cons] at this; omega
    rw [nI_clamp (by omega)] at h3
    refine M_overlapCount_8 ?_
    rw [if_pos h1, h7]
    refine L_oc20 (cont := fun acc => Q (some (vi (acc + oc (ovl M) suf))) M) h6 h3 hp5 hd (fun acc x3 q => ?_) suf (pre ++ [a]) acc h8 ?_
    · rw [h7]; exact ih (pre ++ [a]) acc x3 h8 q
    · rw [show oc (ovl M) (a :: suf) = isum (ovl M a) suf + oc (ovl M) suf from rfl, ← i32_assoc] at q; exact q
theorem S_overlapCount (hN : M 0 10 = nI N) (hN5 : N ≤ 500) (hd : 1 < d) (q : ∀ (l : List Nat) (M' : MT), LiveRow M N l → PRow M M' → Q (some (vi (oc (ovl M) l))) M') : WQ z d j_Mo_overlapCount [vr (some 0)] M Q := by
  refine M_overlapCount_0 ⟨by omega, S_layRow hN hN5 (by omega) fun l M' hp h1 h2 h3 => ?_⟩
  have e : ovl M' = ovl M := by funext a b; unfold ovl; rw [hp 1 a (by decide) (by omega), hp 2 a (by decide) (by omega), hp 1 b (by decide) (by omega), hp 2 b (by decide) (by omega)]
  have := L_oc8 (z := z) (d := d) (Q := Q) (M := M') (by omega) l [] 0 none (Laid.of hN5 h1 h2 h3) (by rw [e, i32_comm, i32_zero]; exact q l M' h3 hp)
  rw [show nI ([] : List Nat).length = (0 : Int32) from rfl] at this
  exact this
end NEARR
section NEARC
variable {g : AHp} {c t b : Nat} {na : Nat → Nat} {K : MT} {T : Tr} {N : Nat} {W : Int} {lim : Nat × Nat} {d : Nat} {R : RT} {X : XT} {x y : Int32}
theorem C_dist (O : RO g c t b na K T N W) {i : Nat} (hi : i ∈ ino T) (q : R (some (vi (far K x i))) g) : WM lim d j_No_distanceTo [vr (some (na i)), vi x] g R X := by
  refine B_No_distanceTo_0 ⟨O.2.1.kn hi, ?_⟩
  rw [O.2.1.lo hi, O.2.1.hi hi]
  unfold far at q
  split
  · rename_i c1; rw [if_pos c1] at q; exact ⟨O.2.1.kn hi, rfl, q⟩
  · rename_i c1; rw [if_neg c1] at q
    refine ⟨O.2.1.kn hi, ?_⟩
    split
    · rename_i c2; rw [if_pos c2] at q; exact ⟨O.2.1.kn hi, rfl, q⟩
    · rename_i c2; rw [if_neg c2] at q; exact ⟨rfl, q⟩
theorem far_small (O : RO g c t b na K T N W) {i : Nat} (hi : i ∈ ino T) (hx : -2000 ≤ x.toInt ∧ x.toInt ≤ 2000) : far K x i < (2147483647 : Int32) := by
  have hb := O.2.2.1.2.2.2.2.2.2.1 i (O.2.2.1.lt hi).1
  rw [i_lt, show (2147483647 : Int32).toInt = 2147483647 from rfl]
  unfold far
  split
  · rw [i_sub (by omega) (by omega)]; omega
  · split
    · rw [i_sub (by omega) (by omega)]; omega
    · decide
theorem C_near38 (O : RO g c t b na K T N W) (hd : 1 < d) (hx : -2000 ≤ x.toInt ∧ x.toInt ≤ 2000) : ∀ (S P : List Nat) (o : Option Nat) (e : Int32) (l5 : Option AV), live K T = P ++ S → (∀ a, o = some a → a ∈ ino T) → (o = none → e = 2147483647) → R (some (vi (idI (nrF K x S o e)))) g → WP lim d j_It_nearest 38 [some (vr (some c)), some (vi x), some (vr (oa na (idI o))), some (vi e), some (vr (oa na (hdI S))), l5] [] g R X := by
  intro S
  induction S with
  | nil =>
    intro P o e l5 _ ho _ q
    refine B_It_nearest_38 ?_
    rw [show hdI [] = (-1 : Int32) from rfl, oa_n, ifN_n]
    refine ⟨by omega, C_idOf O rfl ?_ (onI_v ⟨rfl, q⟩)⟩
    cases o with
    | none => exact Or.inl rfl
    | some a => exact Or.inr ⟨a, ho a rfl, rfl⟩
  | cons i S ih =>
    intro P o e l5 h ho he q
    have hi := O.at h
    have q : R (some (vi (idI (if o = none ∨ far K x i < e then nrF K x S (some i) (far K x i) else nrF K x S o e)))) g := q
    refine B_It_nearest_38 ?_
    rw [show hdI (i :: S) = nI i from rfl, oa_s (O.2.1.lt hi), ifN_s, onR_s]
    refine ⟨all1.mpr (O.2.1.kn hi), by omega, C_dist O hi (onI_v ?_)⟩
    split
    · rename_i c1
      rw [if_pos (Or.inr c1)] at q
      refine O.next h (by omega) (onO_v ?_)
      rw [← oa_s (na := na) (O.2.1.lt hi)]
      exact ih (P ++ [i]) (some i) _ _ (by rw [h]; simp) (fun a ha => by cases ha; exact hi) (fun c => by cases c) q
    · rename_i c1
      have hne : ¬ (o = none ∨ far K x i < e) := by
        rintro (k | k)
        · rw [he k] at c1; exact c1 (far_small O hi hx)
        · exact c1 k
      rw [if_neg hne] at q
      exact O.next h (by omega) (onO_v (ih (P ++ [i]) o e _ (by rw [h]; simp) ho he q))
theorem nrF_start {M : MT} : ∀ (l : List Nat) (e e' : Int32), nrF M x l none e = nrF M x l none e' := by
  intro l e e'
  cases l with
  | nil => rfl
  | cons a l => show (if _ then _ else _) = (if _ then _ else _); rw [if_pos (Or.inl rfl), if_pos (Or.inl rfl)]
theorem C_nearest (O : RO g c t b na K T N W) (hd : 1 < d) (q1 : ¬ (-2000 ≤ x.toInt ∧ x.toInt ≤ 2000) → thr lim X 1 g) (q2 : -2000 ≤ x.toInt ∧ x.toInt ≤ 2000 → R (some (vi (idI (nrF K x (live K T) none 0)))) g) : WM lim d j_It_nearest [vr (some c), vi x] g R X := by
  refine B_It_nearest_0 ?_
  split
  · rename_i c1; rw [i_lt, show (-2000 : Int32).toInt = -2000 from rfl] at c1; exact ⟨rfl, q1 (by omega)⟩
  · rename_i c1; rw [i_lt, show (-2000 : Int32).toInt = -2000 from rfl] at c1
    split
    · rename_i c2; rw [i_lt, show (2000 : Int32).toInt = 2000 from rfl] at c2; exact ⟨rfl, q1 (by omega)⟩
    · rename_i c2; rw [i_lt, show (2000 : Int32).toInt = 2000 from rfl] at c2
      refine O.first hd (onO_v ?_)
      have := C_near38 (R := R) (X := X) (lim := lim) (x := x) O hd (by omega) (live K T) [] none 2147483647 none rfl (fun a ha => by cases ha) (fun _ => rfl) (by rw [nrF_start _ _ 0]; exact q2 (by omega))
      rw [show oa na (idI none) = none from oa_n] at this
      exact this
theorem C_oc19 (O : RO g c t b na K T N W) (hd : 1 < d) {i : Nat} {P0 S0 : List Nat} (h0 : live K T = P0 ++ i :: S0) (hc : ∀ acc l3, R (some (vi (acc + oc (ovl K) S0))) g → WP lim d j_It_overlapCount 10 [some (vr (some c)), some (vi acc), some (vr (oa na (hdI S0))), l3] [] g R X) : ∀ (S P : List Nat) (acc : Int32), live K T = P ++ S → (∀ j ∈ S, j ∈ S0) → R (some (vi (acc + isum (ovl K i) S + oc (ovl K) S0))) g → WP lim d j_It_overlapCount 19 [some (vr (some c)), some (vi acc), some (vr (some (na i))), some (vr (oa na (hdI S)))] [] g R X := by
  have hi0 := O.at h0
  intro S
  induction S with
  | nil =>
    intro P acc _ _ q
    refine B_It_overlapCount_19 ?_
    rw [show hdI [] = (-1 : Int32) from rfl, oa_n, ifN_n, onR_s]
    rw [show isum (ovl K i) [] = (0 : Int32) from rfl, i32_zero] at q
    exact O.next h0 (by omega) (onO_v (hc acc _ q))
  | cons j S ih =>
    intro P acc h hS q
    have hj := O.at h
    refine B_It_overlapCount_19 ?_
    rw [show hdI (j :: S) = nI j from rfl, oa_s (O.2.1.lt hj), ifN_s, onR_s, O.2.1.lo hj, onR_s, O.2.1.hi hi0, onR_s, onR_s]
    refine ⟨O.2.1.kn hj, O.2.1.kn hi0, ?_⟩
    split
    · rename_i c1; rw [i_lt] at c1
      rw [isum_zero (fun a ha => by
        unfold ovl; refine if_neg ?_
        rcases List.mem_cons.mp ha with rfl | ha
        · omega
        · have := O.after h a ha; omega), i32_zero] at q
      exact O.next h0 (by omega) (onO_v (hc acc _ q))
    · rename_i c1; rw [i_lt] at c1
      have hb := O.2.2.1.2.2.2.2.2.2.1 j (O.2.2.1.lt hj).1
      have hl := O.after h0 j (hS j List.mem_cons_self)
      rw [show isum (ovl K i) (j :: S) = ovl K i j + isum (ovl K i) S from rfl, ← i32_assoc, show ovl K i j = 1 by unfold ovl; exact if_pos (by omega)] at q
      exact O.next h (by omega) (onO_v (ih (P ++ [j]) _ (by rw [h]; simp) (fun k hk => hS k (List.mem_cons_of_mem _ hk)) q))
theorem C_oc10 (O : RO g c t b na K T N W) (hd : 1 < d) : ∀ (S P : List Nat) (acc : Int32) (l3 : Option AV), live K T = P ++ S → R (some (vi (acc + oc (ovl K) S))) g → WP lim d j_It_overlapCount 10 [some (vr (some c)), some (vi acc), some (vr (oa na (hdI S))), l3] [] g R X := by
  intro S
  induction S with
  | nil =>
    intro P acc l3 _ q
    refine B_It_overlapCount_10 ?_
    rw [show hdI [] = (-1 : Int32) from rfl, oa_n, ifN_n]
    rw [show oc (ovl K) [] = (0 : Int32) from rfl, i32_zero] at q
    exact ⟨rfl, q⟩
  | cons i S ih =>
    intro P acc l3 h q
    have hi := O.at h
    refine B_It_overlapCount_10 ?_
    rw [show hdI (i :: S) = nI i from rfl, oa_s (O.2.1.lt hi), ifN_s, onR_s]
    rw [show oc (ovl K) (i :: S) = isum (ovl K i) S + oc (ovl K) S from rfl, ← i32_assoc] at q
    exact O.next h (by omega) (onO_v (C_oc19 O hd h (fun acc l3 q => ih (P ++ [i]) acc l3 (by rw [h]; simp) q) S (P ++ [i]) acc (by rw [h]; simp) (fun j hj => hj) q))
theorem C_overlapCount (O : RO g c t b na K T N W) (hd : 1 < d) (q : R (some (vi (oc (ovl K) (live K T)))) g) : WM lim d j_It_overlapCount [vr (some c)] g R X :=
  B_It_overlapCount_0 (O.first hd (onO_v (C_oc10 O hd (live K T) [] 0 none rfl (by rw [i32_comm, i32_zero]; exact q))))
end NEARC
