/-! ===== cursors: open, next, removeCurrent ===== -/
theorem sI_fr {g : AHp} {a k : Nat} {v : Int32} : Fr g (sI g a k v) (fun x => x = a) := ⟨rfl, rfl, rfl, rfl, fun _ hb => ⟨up2_off _ hb, rfl, rfl⟩⟩
theorem sP_fr {g : AHp} {a k : Nat} {v : Option Nat} : Fr g (sP g a k v) (fun x => x = a) := ⟨rfl, rfl, rfl, rfl, fun _ hb => ⟨rfl, up2_off _ hb, rfl⟩⟩
theorem hI_at {g : AHp} {a k : Nat} {v : Int32} : hI (sI g a k v) a k = v := up2_at
theorem hI_ne {g : AHp} {a k b j : Nat} {v : Int32} (h : ¬ (b = a ∧ j = k)) : hI (sI g a k v) b j = hI g b j := up2_ne h
theorem hP_sI {g : AHp} {a k : Nat} {v : Int32} : hP (sI g a k v) = hP g := rfl
section CURX
variable {g : AHp} {c t b F Cs : Nat} {na cu : Nat → Nat} {K : MT} {T : Tr} {N : Nat} {W : Int} {lim : Nat × Nat} {d : Nat} {R : RT} {X : XT} {x y : Int32} {FL : Nat → List SP} {NB : Nat → Int32} {fa : Nat → Nat} {nf : Nat}
theorem RO.off (O : RO g c t b na K T N W) {a k : Nat} (ha : hk g a = k) (h : k ≠ 6 ∧ k ≠ 12 ∧ k ≠ 5 ∧ k ≠ 2) : c ≠ a ∧ b ≠ a ∧ ¬ own t na (fun i => i ∈ ino T) a := by
  refine ⟨fun e => h.1 ?_, fun e => h.2.1 ?_, fun q => ?_⟩
  · rw [← ha, ← e, O.1.1]
  · rw [← ha, ← e, O.2.1.1.2.2.2.1]
  · rcases q with q | ⟨i, hi, q⟩
    · exact h.2.2.1 (by rw [← ha, q, O.2.1.kt])
    · exact h.2.2.2 (by rw [← ha, q, O.2.1.kn hi])
theorem RO.fr1 {g' : AHp} (O : RO g c t b na K T N W) (hcz : c < hsz g) {a k : Nat} (ha : hk g a = k) (h : k ≠ 6 ∧ k ≠ 12 ∧ k ≠ 5 ∧ k ≠ 2) (f : Fr g g' (fun x => x = a)) : RO g' c t b na K T N W := by
  have o := O.off ha h
  exact O.keep hcz f.keep o.1 o.2.1 (fun z hz => by rw [hz]; exact o.2.2)
theorem C_open (O : RO g c t b na K T N W) (hcz : c < hsz g) (hd : 6 < d) (Y : FA g c F FL NB fa nf) (U : CU g c Cs cu K N nf) (q1 : ¬ (ix x 4 ∧ ix y nf) → thr lim X 1 g) (q2 : ∀ k f g', k < 4 → x = nI k → f < nf → y = nI f → Fr g g' (fun a => a = cu k) → hI g' (cu k) 0 = 1 → hI g' (cu k) 1 = nI f → hI g' (cu k) 2 = 0 → R (some (vi (idI ((live K T).find? (folP K (live K T) FL f none))))) g') : WM lim d j_It_open [vr (some c), vi x, vi y] g R X := by
  have h8 := Y.1
  refine B_It_open_0 ⟨all1.mpr O.1.1, by omega, C_exist O.1.1 U (fun k hk4 e => onO_v ⟨all1.mpr O.1.1, by omega, ?_⟩) (fun h => q1 (fun z => h z.1))⟩
  refine C_chkF O.1.1 Y.2.1 Y.1 (fun h => ?_) (fun h => q1 (fun z => h z.2))
  obtain ⟨f, hf, rfl⟩ := ix_ex h (by omega)
  have ka := (U.2.1 k hk4).2.2.1
  rw [onR_s]
  refine ⟨all1.mpr ka, by omega, B_Cu_start_0 ⟨ka, Or.inr rfl, ka, ka, Or.inl rfl, rfl, ?_⟩⟩
  have fr : Fr g (sI (sI (sI g (cu k) 0 1) (cu k) 1 (nI f)) (cu k) 2 0) (fun a => a = cu k) := (sI_fr.trans sI_fr).trans sI_fr
  have e0 : hI (sI (sI (sI g (cu k) 0 1) (cu k) 1 (nI f)) (cu k) 2 0) (cu k) 0 = 1 := by rw [hI_ne (by omega), hI_ne (by omega), hI_at]
  have e1 : hI (sI (sI (sI g (cu k) 0 1) (cu k) 1 (nI f)) (cu k) 2 0) (cu k) 1 = nI f := by rw [hI_ne (by omega), hI_at]
  have e2 : hI (sI (sI (sI g (cu k) 0 1) (cu k) 1 (nI f)) (cu k) 2 0) (cu k) 2 = 0 := hI_at
  generalize hg' : sI (sI (sI g (cu k) 0 1) (cu k) 1 (nI f)) (cu k) 2 0 = g' at fr e0 e1 e2 ⊢
  have O' := O.fr1 hcz ka (by decide) fr
  have cc := fr.2.2.2.2 c (fun z => by rw [z] at hcz; have := O.1.1; rw [z, ka] at this; cases this)
  have Y' := Y.keep fr.keep (by rw [cc.1]) (by rw [cc.2.1]) (fun a ha => by rw [ha, ka]; decide)
  have q := q2 k f g' hk4 e hf rfl fr e0 e1 e2
  refine ⟨all1.mpr O'.1.1, by omega, C_fol O' (by omega) Y' hf (by rw [fr.2.2.1]; exact ka) e1 (lst := none) ⟨fun _ => e2, fun j hj => by cases hj⟩ (onO_v ⟨by omega, C_idOf O' rfl ?_ (onI_v ⟨rfl, q⟩)⟩)⟩
  cases ef : (live K T).find? (folP K (live K T) FL f none) with
  | none => exact Or.inl rfl
  | some i => exact Or.inr ⟨i, (lvT (find_in ef)).1, rfl⟩
theorem C_next (O : RO g c t b na K T N W) (hcz : c < hsz g) (hd : 6 < d) (Y : FA g c F FL NB fa nf) (U : CU g c Cs cu K N nf) (q1 : ¬ ix x 4 → thr lim X 1 g) (q2 : ∀ k, k < 4 → x = nI k → K 24 k = 0 → thr lim X 2 g)
    (q3 : ∀ k f lst, k < 4 → x = nI k → K 24 k = 1 → f < nf → K 25 k = nI f → K 26 k = idI lst → (∀ j, lst = some j → j < N) → (live K T).find? (folP K (live K T) FL f lst) = none → thr lim X 3 g)
    (q4 : ∀ k f lst i g', k < 4 → x = nI k → K 24 k = 1 → f < nf → K 25 k = nI f → K 26 k = idI lst → (∀ j, lst = some j → j < N) → (live K T).find? (folP K (live K T) FL f lst) = some i → Fr g g' (fun a => a = cu k) → CL g' (cu k) K N (some i) → hI g' (cu k) 0 = 1 → hI g' (cu k) 1 = nI f → R (some (vi (nI i))) g') : WM lim d j_It_next [vr (some c), vi x] g R X := by
  refine B_It_next_0 ⟨all1.mpr O.1.1, by omega, C_openC O.1.1 (by omega) U (fun k f lst hk4 e h24 hf e1 e2 e3 L => onO_v ⟨all1.mpr O.1.1, by omega, ?_⟩) q1 q2⟩
  have ka := (U.2.1 k hk4).2.2.1
  have h0 := (U.2.1 k hk4).2.2.2
  refine C_fol O (by omega) Y hf ka e1 L (onO_v ?_)
  cases ef : (live K T).find? (folP K (live K T) FL f lst) with
  | none => rw [show idI none = -1 from rfl, oa_n]; exact ⟨rfl, q3 k f lst hk4 e h24 hf e2 e3 (fun j hj => (L.2 j hj).1) ef⟩
  | some i =>
    have hi := (lvT (find_in ef)).1
    have V := O.2.1
    have kn := V.kn hi
    rw [show idI (some i) = nI i from rfl, oa_s (V.lt hi), ifN_s, onR_s]
    have ne : na i ≠ cu k := fun z => by rw [z, ka] at kn; cases kn
    refine ⟨all1.mpr ka, by omega, B_Cu_moveBehind_0 ⟨ka, Or.inr rfl, ?_⟩⟩
    simp only [onR_s]
    refine ⟨kn, ka, kn, ka, kn, ka, trivial, ?_⟩
    have w1 : hI (sI g (cu k) 2 1) (na i) 1 = K 1 i := by rw [hI_ne (fun z => ne z.1)]; exact V.lo hi
    rw [w1]
    have w2 : hI (sI (sI g (cu k) 2 1) (cu k) 3 (K 1 i)) (na i) 2 = K 2 i := by rw [hI_ne (fun z => ne z.1), hI_ne (fun z => ne z.1)]; exact V.hi hi
    rw [w2]
    have w3 : hI (sI (sI (sI g (cu k) 2 1) (cu k) 3 (K 1 i)) (cu k) 4 (K 2 i)) (na i) 0 = nI i := by rw [hI_ne (fun z => ne z.1), hI_ne (fun z => ne z.1), hI_ne (fun z => ne z.1)]; exact V.id hi
    rw [w3]
    have fr : Fr g (sI (sI (sI (sI g (cu k) 2 1) (cu k) 3 (K 1 i)) (cu k) 4 (K 2 i)) (cu k) 5 (nI i)) (fun a => a = cu k) := ((sI_fr.trans sI_fr).trans sI_fr).trans sI_fr
    have c2 : hI (sI (sI (sI (sI g (cu k) 2 1) (cu k) 3 (K 1 i)) (cu k) 4 (K 2 i)) (cu k) 5 (nI i)) (cu k) 2 = 1 := by rw [hI_ne (by omega), hI_ne (by omega), hI_ne (by omega), hI_at]
    have c3 : hI (sI (sI (sI (sI g (cu k) 2 1) (cu k) 3 (K 1 i)) (cu k) 4 (K 2 i)) (cu k) 5 (nI i)) (cu k) 3 = K 1 i := by rw [hI_ne (by omega), hI_ne (by omega), hI_at]
    have c4 : hI (sI (sI (sI (sI g (cu k) 2 1) (cu k) 3 (K 1 i)) (cu k) 4 (K 2 i)) (cu k) 5 (nI i)) (cu k) 4 = K 2 i := by rw [hI_ne (by omega), hI_at]
    have c5 : hI (sI (sI (sI (sI g (cu k) 2 1) (cu k) 3 (K 1 i)) (cu k) 4 (K 2 i)) (cu k) 5 (nI i)) (cu k) 5 = nI i := hI_at
    have c0 : hI (sI (sI (sI (sI g (cu k) 2 1) (cu k) 3 (K 1 i)) (cu k) 4 (K 2 i)) (cu k) 5 (nI i)) (cu k) 0 = 1 := by rw [hI_ne (by omega), hI_ne (by omega), hI_ne (by omega), hI_ne (by omega), h0, h24]
    have c1 : hI (sI (sI (sI (sI g (cu k) 2 1) (cu k) 3 (K 1 i)) (cu k) 4 (K 2 i)) (cu k) 5 (nI i)) (cu k) 1 = nI f := by rw [hI_ne (by omega), hI_ne (by omega), hI_ne (by omega), hI_ne (by omega), e1]
    generalize sI (sI (sI (sI g (cu k) 2 1) (cu k) 3 (K 1 i)) (cu k) 4 (K 2 i)) (cu k) 5 (nI i) = g' at fr c0 c1 c2 c3 c4 c5 ⊢
    refine ⟨by rw [fr.2.2.1]; exact kn, trivial, ?_⟩
    rw [(fr.2.2.2.2 (na i) ne).1, V.id hi]
    exact q4 k f lst i g' hk4 e h24 hf e2 e3 (fun j hj => (L.2 j hj).1) ef fr ⟨fun z => (by cases z), fun j hj => (by cases hj; exact ⟨(O.2.2.1.lt hi).1, c2, c3, c4, c5⟩)⟩ c0 c1
theorem C_removeCurrent (O : RO g c t b na K T N W) (hd : 15 < d) (U : CU g c Cs cu K N nf) (q1 : ¬ ix x 4 → thr lim X 1 g) (q2 : ∀ k, k < 4 → x = nI k → K 24 k = 0 → thr lim X 2 g)
    (q3 : ∀ k, k < 4 → x = nI k → K 24 k = 1 → (∀ j, j < N → K 26 k = nI j → ¬ K 4 j = 0) → thr lim X 2 g)
    (q4 : ∀ k i, k < 4 → x = nI k → K 24 k = 1 → K 26 k = nI i → i ∈ live K T → ¬ due (rmM K i) → ∀ g', RO g' c t b na (mkM K T i) T N W → Fr g g' (own t na (fun i => i ∈ ino T)) → R (some (vi (nI (live (rmM K i) T).length))) g')
    (q5 : ∀ k i, k < 4 → x = nI k → K 24 k = 1 → K 26 k = nI i → i ∈ live K T → due (rmM K i) → ∀ gB g' Kc, CV gB g' t b na (fun i => i ∈ ino T) Kc → NulP g gB b ((ino T).filter fun z => decide (¬ mkM K T i 4 z = 0)) → RenP (mkM K T i) Kc (live (rmM K i) T) → R (some (vi (nI (live (rmM K i) T).length))) g') : WM lim d j_It_removeCurrent [vr (some c), vi x] g R X := by
  have hN := O.2.2.1.2.1
  refine B_It_removeCurrent_0 ⟨all1.mpr O.1.1, by omega, C_openC O.1.1 (by omega) U (fun k f lst hk4 e h24 hf e1 e2 e3 L => onO_v ?_) q1 q2⟩
  have ka := (U.2.1 k hk4).2.2.1
  rw [onR_s]
  refine ⟨ka, ?_⟩
  cases hl : lst with
  | none =>
    rw [L.1 hl, if_pos rfl]
    refine ⟨rfl, q3 k hk4 e h24 (fun j hj ej => ?_)⟩
    rw [e3, hl] at ej; exact (nI_m1 (by omega) ej.symm).elim
  | some j =>
    obtain ⟨hj, l2, l3, l4, l5⟩ := L.2 j hl
    rw [l2, if_neg (by decide), onR_s, l5, O.1.2, onR_s]
    have h26 : K 26 k = nI j := by rw [e3, hl]; rfl
    refine ⟨O.1.1, ka, all1.mpr O.2.1.kt, by omega, C_find O (by omega) (fun i hi ei => onO_v ?_) (fun h => onO_v ⟨rfl, q3 k hk4 e h24 (fun j' hj' ej => ?_)⟩)⟩
    · have : j = i := nI_inj (by omega) (O.2.1.lt hi) ei
      subst this
      rw [ifN_s, onR_s, O.2.1.st hi]
      refine ⟨O.2.1.kn hi, ?_⟩
      by_cases h0 : K 4 j = 0
      · rw [if_pos h0]
        have hlv : j ∈ live K T := (O.2.2.1.mem_live j).mpr ⟨hj, h0⟩
        refine ⟨O.1.1, ?_⟩
        rw [O.1.2, onR_s]
        exact ⟨all1.mpr O.2.1.kt, by omega, C_gone O (by omega) hlv (q4 k j hk4 e h24 h26 hlv) (q5 k j hk4 e h24 h26 hlv)⟩
      · rw [if_neg h0]
        refine ⟨rfl, q3 k hk4 e h24 (fun j' hj' ej => ?_)⟩
        rw [h26] at ej
        rw [← nI_inj (by omega) (by omega) ej]; exact h0
    · rw [h26] at ej
      have : j = j' := nI_inj (by omega) (by omega) ej
      subst this
      intro h0
      exact h ⟨ix_nI hj (by omega), by rw [nI_clamp (by omega), h0]; decide⟩
end CURX
