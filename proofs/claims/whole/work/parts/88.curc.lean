/-! ===== the class's cursors ===== -/
def CL (g : AHp) (a : Nat) (K : MT) (N : Nat) (lst : Option Nat) : Prop := (lst = none → hI g a 2 = 0) ∧ ∀ j, lst = some j → j < N ∧ hI g a 2 = 1 ∧ hI g a 3 = K 1 j ∧ hI g a 4 = K 2 j ∧ hI g a 5 = nI j
def CU (g : AHp) (c Cs : Nat) (cu : Nat → Nat) (K : MT) (N nf : Nat) : Prop :=
  (hP g c 3 = some Cs ∧ Cs < hsz g ∧ hk g Cs = 10 ∧ hLen g Cs = 4) ∧ (∀ k, k < 4 → hP g Cs k = some (cu k) ∧ cu k < hsz g ∧ hk g (cu k) = 0 ∧ hI g (cu k) 0 = K 24 k) ∧ (∀ k j, k < 4 → j < 4 → cu k = cu j → k = j) ∧
  ∀ k, k < 4 → K 24 k = 0 ∨ (K 24 k = 1 ∧ ∃ f lst, f < nf ∧ hI g (cu k) 1 = nI f ∧ K 25 k = nI f ∧ K 26 k = idI lst ∧ CL g (cu k) K N lst)
section CURC
variable {g : AHp} {c t b F Cs : Nat} {na cu : Nat → Nat} {K : MT} {T : Tr} {N : Nat} {W : Int} {lim : Nat × Nat} {d : Nat} {R : RT} {X : XT} {x y : Int32} {FL : Nat → List SP} {NB : Nat → Int32} {fa : Nat → Nat} {nf : Nat}
theorem C_exist (hc : hk g c = 6) (U : CU g c Cs cu K N nf) (q1 : ∀ k, k < 4 → x = nI k → R (some (vr (some (cu k)))) g) (q2 : ¬ ix x 4 → thr lim X 1 g) : WM lim d j_It_existingCursor [vr (some c), vi x] g R X := by
  obtain ⟨⟨h1, h2, h3, h4⟩, h5, -⟩ := U
  refine B_It_existingCursor_0 ?_
  simp only [h1, onR_s, h3, h4]
  split
  · rename_i e; rw [i_lt, i_0] at e; exact ⟨trivial, q2 (fun z => by rw [ix_iff] at z; omega)⟩
  · rename_i e; rw [i_lt, i_0] at e
    refine ⟨hc, by omega, ?_⟩
    split
    · rename_i e2; rw [i_lt, nI_toInt (by decide)] at e2
      have hx : ix x 4 := ix_iff.mpr (by omega)
      obtain ⟨k, hk4, rfl⟩ := ix_ex hx (by decide)
      rw [nI_clamp (by omega), (h5 k hk4).1, ifN_s]
      exact ⟨hc, trivial, hx, trivial, q1 k hk4 rfl⟩
    · rename_i e2; rw [i_lt, nI_toInt (by decide)] at e2; exact ⟨trivial, q2 (fun z => by rw [ix_iff] at z; omega)⟩
theorem C_openC (hc : hk g c = 6) (hd : 0 < d) (U : CU g c Cs cu K N nf) (q1 : ∀ k f lst, k < 4 → x = nI k → K 24 k = 1 → f < nf → hI g (cu k) 1 = nI f → K 25 k = nI f → K 26 k = idI lst → CL g (cu k) K N lst → R (some (vr (some (cu k)))) g) (q2 : ¬ ix x 4 → thr lim X 1 g) (q3 : ∀ k, k < 4 → x = nI k → K 24 k = 0 → thr lim X 2 g) : WM lim d j_It_openCursor [vr (some c), vi x] g R X := by
  refine B_It_openCursor_0 ⟨all1.mpr hc, hd, C_exist hc U (fun k hk4 e => onO_v ?_) q2⟩
  obtain ⟨h5, h6, h7, h8⟩ := U.2.1 k hk4
  rw [onR_s, h8]
  refine ⟨h7, ?_⟩
  rcases U.2.2.2 k hk4 with h0 | ⟨h1, f, lst, hf, e1, e2, e3, L⟩
  · rw [if_pos h0]; exact ⟨rfl, q3 k hk4 e h0⟩
  · rw [if_neg (by rw [h1]; decide)]; exact ⟨rfl, q1 k f lst hk4 e h1 hf e1 e2 e3 L⟩
theorem C_behind (O : RO g c t b na K T N W) {i j : Nat} (hi : i ∈ ino T) (hj : j < 500) (q : R (some (vi (bi (lessB K j i)))) g) : WM lim d j_No_isBehind [vr (some (na i)), vi (K 1 j), vi (K 2 j), vi (nI j)] g R X := by
  have V := O.2.1
  have hl := V.lt hi
  have kn := V.kn hi
  refine B_No_isBehind_0 ⟨kn, ?_⟩
  rw [V.lo hi, V.hi hi, V.id hi]
  have T1 : less K j i → R (some (vi 1)) g := fun h => by rw [lessB_iff.mpr h] at q; exact q
  have T0 : ¬ less K j i → R (some (vi 0)) g := fun h => by
    have : lessB K j i = false := by
      cases e : lessB K j i with
      | false => rfl
      | true => exact (h (lessB_iff.mp e)).elim
    rw [this] at q; exact q
  split
  · rename_i e1
    refine ⟨kn, ?_⟩
    split
    · rename_i e2
      refine ⟨kn, ?_⟩
      split
      · rename_i e3; rw [i_lt, nI_toInt (by omega), nI_toInt (by omega)] at e3
        exact ⟨rfl, Or.inr rfl, T1 (Or.inr ⟨e1.symm, Or.inr ⟨e2.symm, by omega⟩⟩)⟩
      · rename_i e3; rw [i_lt, nI_toInt (by omega), nI_toInt (by omega)] at e3
        refine ⟨rfl, Or.inl rfl, T0 ?_⟩
        rintro (q | ⟨-, q | ⟨-, q⟩⟩)
        · rw [e1] at q; omega
        · rw [e2] at q; omega
        · omega
    · rename_i e2
      refine ⟨kn, ?_⟩
      split
      · rename_i e3; rw [i_lt] at e3; exact ⟨rfl, Or.inr rfl, T1 (Or.inr ⟨e1.symm, Or.inl e3⟩)⟩
      · rename_i e3; rw [i_lt] at e3
        refine ⟨rfl, Or.inl rfl, T0 ?_⟩
        rintro (q | ⟨-, q | ⟨q, -⟩⟩)
        · rw [e1] at q; omega
        · omega
        · exact e2 q.symm
  · rename_i e1
    refine ⟨kn, ?_⟩
    split
    · rename_i e3; rw [i_lt] at e3; exact ⟨rfl, Or.inr rfl, T1 (Or.inl e3)⟩
    · rename_i e3; rw [i_lt] at e3
      refine ⟨rfl, Or.inl rfl, T0 ?_⟩
      rintro (q | ⟨q, -⟩)
      · omega
      · exact e1 q.symm
def isBf (K : MT) (lst : Option Nat) (a : Nat) : Bool := match lst with
  | none => true
  | some j => lessB K j a
theorem C_isB (O : RO g c t b na K T N W) (hd : 0 < d) {i a : Nat} {lst : Option Nat} (hi : i ∈ ino T) (ka : hk g a = 0) (L : CL g a K N lst) (q : R (some (vi (bi (isBf K lst i)))) g) : WM lim d j_Cu_isBefore [vr (some a), vr (some (na i))] g R X := by
  refine B_Cu_isBefore_0 ⟨ka, ?_⟩
  cases hl : lst with
  | none =>
    rw [hl] at q
    rw [L.1 hl, if_pos rfl]; exact ⟨rfl, Or.inr rfl, q⟩
  | some j =>
    rw [hl] at q
    obtain ⟨hj, e2, e3, e4, e5⟩ := L.2 j hl
    have hN := O.2.2.1.2.1
    rw [e2, if_neg (by decide), onR_s, e3, e4, e5]
    refine ⟨ka, ka, ka, all1.mpr (O.2.1.kn hi), hd, C_behind O hi (by omega) ?_⟩
    have q : R (some (vi (bi (lessB K j i)))) g := q
    cases e : lessB K j i with
    | false => rw [e] at q; exact onI_0 ⟨rfl, Or.inl rfl, q⟩
    | true => rw [e] at q; exact onI_1 ⟨rfl, Or.inr rfl, q⟩
theorem C_fol8 (O : RO g c t b na K T N W) (hd : 5 < d) (Y : FA g c F FL NB fa nf) {f a : Nat} {lst : Option Nat} (hf : f < nf) (ka : hk g a = 0) (e1 : hI g a 1 = nI f) (L : CL g a K N lst) : ∀ (S P : List Nat), live K T = P ++ S → R (some (vr (oa na (idI (S.find? (folP K (live K T) FL f lst)))))) g → WP lim d j_It_following 8 [some (vr (some c)), some (vr (some a)), some (vr (oa na (hdI S)))] [] g R X := by
  intro S
  induction S with
  | nil =>
    intro P _ q
    exact B_It_following_8 (by rw [show hdI [] = (-1 : Int32) from rfl, oa_n]; exact ⟨rfl, q⟩)
  | cons i S ih =>
    intro P h q
    have hi := O.at h
    rw [List.find?_cons] at q
    have ef : folP K (live K T) FL f lst i = (isBf K lst i && tk K (live K T) i FL f) := by cases lst <;> rfl
    refine B_It_following_8 ?_
    rw [show hdI (i :: S) = nI i from rfl, oa_s (O.2.1.lt hi), ifN_s, onR_s]
    refine ⟨all1.mpr ka, by omega, C_isB O (by omega) hi ka L ?_⟩
    cases e : isBf K lst i with
    | false =>
      rw [ef, e, Bool.false_and] at q
      refine onI_0 ?_
      rw [onR_s]
      exact O.next h (by omega) (onO_v (ih (P ++ [i]) (by rw [h]; simp) q))
    | true =>
      rw [ef, e, Bool.true_and] at q
      refine onI_1 ?_
      rw [onR_s, e1]
      refine ⟨ka, all1.mpr O.1.1, by omega, C_matches O (by omega) Y hi hf ?_⟩
      cases et : tk K (live K T) i FL f with
      | false =>
        rw [et] at q
        refine onI_0 ?_
        rw [onR_s]
        exact O.next h (by omega) (onO_v (ih (P ++ [i]) (by rw [h]; simp) q))
      | true =>
        rw [et] at q
        refine onI_1 ⟨rfl, ?_⟩
        have q : R (some (vr (oa na (nI i)))) g := q
        rw [oa_s (O.2.1.lt hi)] at q; exact q
theorem C_fol (O : RO g c t b na K T N W) (hd : 5 < d) (Y : FA g c F FL NB fa nf) {f a : Nat} {lst : Option Nat} (hf : f < nf) (ka : hk g a = 0) (e1 : hI g a 1 = nI f) (L : CL g a K N lst) (q : R (some (vr (oa na (idI ((live K T).find? (folP K (live K T) FL f lst)))))) g) : WM lim d j_It_following [vr (some c), vr (some a)] g R X :=
  B_It_following_0 (O.first (by omega) (onO_v (C_fol8 O hd Y hf ka e1 L (live K T) [] rfl q)))
theorem find_in {P : Nat → Bool} {i : Nat} (h : (live K T).find? P = some i) : i ∈ live K T := List.mem_of_find?_eq_some h
theorem C_hasNext (O : RO g c t b na K T N W) (hd : 6 < d) (Y : FA g c F FL NB fa nf) (U : CU g c Cs cu K N nf) (q1 : ¬ ix x 4 → thr lim X 1 g) (q2 : ∀ k, k < 4 → x = nI k → K 24 k = 0 → thr lim X 2 g) (q3 : ∀ k f lst, k < 4 → x = nI k → K 24 k = 1 → f < nf → K 25 k = nI f → K 26 k = idI lst → (∀ j, lst = some j → j < N) → R (some (vi (if (live K T).find? (folP K (live K T) FL f lst) = none then 0 else 1))) g) : WM lim d j_It_hasNext [vr (some c), vi x] g R X := by
  refine B_It_hasNext_0 ⟨all1.mpr O.1.1, by omega, C_openC O.1.1 (by omega) U (fun k f lst hk4 e h24 hf e1 e2 e3 L => onO_v ⟨all1.mpr O.1.1, by omega, ?_⟩) q1 q2⟩
  have q := q3 k f lst hk4 e h24 hf e2 e3 (fun j hj => (L.2 j hj).1)
  refine C_fol O (by omega) Y hf (U.2.1 k hk4).2.2.1 e1 L (onO_v ?_)
  cases ef : (live K T).find? (folP K (live K T) FL f lst) with
  | none => rw [ef, if_pos rfl] at q; rw [show idI none = -1 from rfl, oa_n]; exact ⟨rfl, Or.inl rfl, q⟩
  | some i =>
    rw [ef, if_neg (by simp)] at q
    rw [show idI (some i) = nI i from rfl, oa_s (O.2.1.lt (lvT (find_in ef)).1), ifN_s]; exact ⟨rfl, Or.inr rfl, q⟩
end CURC
