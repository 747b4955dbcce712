/-! ===== the class's walks ===== -/
theorem less_lo {K : MT} {a b : Nat} (h : less K a b) : (K 1 a).toInt ≤ (K 1 b).toInt := by
  unfold less at h
  rcases h with h | ⟨h, -⟩
  · omega
  · rw [h]; exact Int.le_refl _
theorem isum_zero {f : Nat → Int32} : ∀ {l : List Nat}, (∀ x ∈ l, f x = 0) → isum f l = 0 := by
  intro l
  induction l with
  | nil => intro _; rfl
  | cons x l ih => intro h; show f x + isum f l = 0; rw [h x List.mem_cons_self, ih (fun y hy => h y (List.mem_cons_of_mem _ hy))]; rfl
theorem isum_congr {f f' : Nat → Int32} : ∀ {l : List Nat}, (∀ x ∈ l, f x = f' x) → isum f l = isum f' l := by
  intro l
  induction l with
  | nil => intro _; rfl
  | cons x l ih => intro h; show f x + isum f l = f' x + isum f' l; rw [h x List.mem_cons_self, ih (fun y hy => h y (List.mem_cons_of_mem _ hy))]
theorem isum_live {K : MT} {T : Tr} {N : Nat} {W : Int} {f : Nat → Int32} (I : TI K T N W) (h0 : ∀ a, ¬ K 4 a = 0 → f a = 0) : isum f (List.range' 0 N) = isum f (live K T) := by
  rw [← isum_filter (p := fun x => decide (K 4 x = 0)) (fun x _ hx => h0 x (of_decide_eq_false hx))]
  refine isum_perm ((List.perm_ext_iff_of_nodup (List.Pairwise.filter _ List.nodup_range') (pw_nodup I.live_sorted)).mpr (fun x => ?_))
  rw [List.mem_filter, I.mem_live, List.mem_range'_1, decide_eq_true_iff]
  exact ⟨fun h => ⟨by omega, h.2⟩, fun h => ⟨by omega, h.2⟩⟩
section CASK
variable {g : AHp} {c t b : Nat} {na : Nat → Nat} {K : MT} {T : Tr} {N : Nat} {W : Int} {lim : Nat × Nat} {d : Nat} {R : RT} {X : XT} {x y : Int32}
theorem RO.after (O : RO g c t b na K T N W) {P S : List Nat} {i : Nat} (h : live K T = P ++ i :: S) : ∀ j ∈ S, (K 1 i).toInt ≤ (K 1 j).toInt := by
  have := O.2.2.1.live_sorted
  rw [h, List.pairwise_append, List.pairwise_cons] at this
  exact fun j hj => less_lo (this.2.1.1 j hj)
theorem RO.at (O : RO g c t b na K T N W) {P S : List Nat} {i : Nat} (h : live K T = P ++ i :: S) : i ∈ ino T := have _ := O; (lvT (h ▸ List.mem_append_right _ List.mem_cons_self)).1
theorem C_ceil8 (O : RO g c t b na K T N W) (hd : 1 < d) : ∀ (S P : List Nat), live K T = P ++ S → R (some (vi (idI (S.find? fun a => decide (x.toInt ≤ (K 1 a).toInt))))) g → WP lim d j_It_ceiling 8 [some (vr (some c)), some (vi x), some (vr (oa na (hdI S)))] [] g R X := by
  intro S
  induction S with
  | nil => intro P _ q; exact B_It_ceiling_8 (by rw [show hdI [] = (-1 : Int32) from rfl, oa_n]; exact ⟨rfl, q⟩)
  | cons i S ih =>
    intro P h q
    have hi := O.at h
    refine B_It_ceiling_8 ?_
    rw [show hdI (i :: S) = nI i from rfl, oa_s (O.2.1.lt hi), ifN_s, onR_s, O.2.1.lo hi, onR_s, onR_s, O.2.1.id hi]
    refine ⟨O.2.1.kn hi, ?_⟩
    rw [List.find?_cons] at q
    split
    · rename_i c1; rw [i_lt] at c1
      rw [decide_eq_false (by omega)] at q
      exact O.next h (by omega) (onO_v (ih (P ++ [i]) (by rw [h]; simp) q))
    · rename_i c1; rw [i_lt] at c1
      rw [decide_eq_true (show x.toInt ≤ (K 1 i).toInt by omega)] at q
      exact ⟨O.2.1.kn hi, rfl, q⟩
theorem C_ceiling (O : RO g c t b na K T N W) (hd : 1 < d) (q : R (some (vi (idI ((live K T).find? fun a => decide (x.toInt ≤ (K 1 a).toInt))))) g) : WM lim d j_It_ceiling [vr (some c), vi x] g R X :=
  B_It_ceiling_0 (O.first hd (onO_v (C_ceil8 O hd (live K T) [] rfl q)))
theorem foldl_keep {p : Nat → Prop} [DecidablePred p] : ∀ {S : List Nat} {o : Option Nat}, (∀ a ∈ S, ¬ p a) → S.foldl (fun o a => if p a then some a else o) o = o := by
  intro S
  induction S with
  | nil => intro o _; rfl
  | cons a S ih => intro o h; rw [List.foldl_cons, if_neg (h a List.mem_cons_self)]; exact ih (fun y hy => h y (List.mem_cons_of_mem _ hy))
theorem C_floor10 (O : RO g c t b na K T N W) (hd : 1 < d) : ∀ (S P : List Nat) (o : Option Nat), live K T = P ++ S → R (some (vi (idI (S.foldl (fun o a => if (K 1 a).toInt ≤ x.toInt then some a else o) o)))) g → WP lim d j_It_floor 10 [some (vr (some c)), some (vi x), some (vi (idI o)), some (vr (oa na (hdI S)))] [] g R X := by
  intro S
  induction S with
  | nil => intro P o _ q; exact B_It_floor_10 (by rw [show hdI [] = (-1 : Int32) from rfl, oa_n]; exact ⟨rfl, q⟩)
  | cons i S ih =>
    intro P o h q
    have hi := O.at h
    refine B_It_floor_10 ?_
    rw [show hdI (i :: S) = nI i from rfl, oa_s (O.2.1.lt hi), ifN_s, onR_s, O.2.1.lo hi, onR_s, O.2.1.id hi, onR_s]
    refine ⟨O.2.1.kn hi, ?_⟩
    split
    · rename_i c1; rw [i_lt] at c1
      rw [foldl_keep (fun a ha => by
        rcases List.mem_cons.mp ha with rfl | ha
        · omega
        · have := O.after h a ha; omega)] at q
      exact ⟨rfl, q⟩
    · rename_i c1; rw [i_lt] at c1
      rw [List.foldl_cons, if_pos (by omega)] at q
      exact ⟨O.2.1.kn hi, O.next h (by omega) (onO_v (ih (P ++ [i]) (some i) (by rw [h]; simp) q))⟩
theorem C_floor (O : RO g c t b na K T N W) (hd : 1 < d) (q : R (some (vi (idI ((live K T).foldl (fun o a => if (K 1 a).toInt ≤ x.toInt then some a else o) none)))) g) : WM lim d j_It_floor [vr (some c), vi x] g R X :=
  B_It_floor_0 (O.first hd (onO_v (C_floor10 O hd (live K T) [] none rfl q)))
theorem C_range (q1 : ¬ y.toInt < x.toInt → R none g) (q2 : y.toInt < x.toInt → thr lim X 1 g) : WM lim d j_It_checkRange [vi x, vi y] g R X := by
  refine B_It_checkRange_0 ?_
  split
  · rename_i c; rw [i_lt] at c; exact ⟨rfl, q2 c⟩
  · rename_i c; rw [i_lt] at c; exact ⟨rfl, q1 c⟩
theorem C_fo13 (O : RO g c t b na K T N W) (hd : 1 < d) : ∀ (S P : List Nat), live K T = P ++ S → R (some (vi (idI (S.find? fun a => decide ((K 1 a).toInt ≤ y.toInt ∧ x.toInt ≤ (K 2 a).toInt))))) g → WP lim d j_It_firstOverlap 13 [some (vr (some c)), some (vi x), some (vi y), some (vr (oa na (hdI S)))] [] g R X := by
  intro S
  induction S with
  | nil => intro P _ q; exact B_It_firstOverlap_13 (by rw [show hdI [] = (-1 : Int32) from rfl, oa_n]; exact ⟨rfl, q⟩)
  | cons i S ih =>
    intro P h q
    have hi := O.at h
    refine B_It_firstOverlap_13 ?_
    rw [show hdI (i :: S) = nI i from rfl, oa_s (O.2.1.lt hi), ifN_s, onR_s, O.2.1.lo hi, onR_s, O.2.1.hi hi, onR_s, onR_s, O.2.1.id hi]
    refine ⟨O.2.1.kn hi, ?_⟩
    split
    · rename_i c1; rw [i_lt] at c1
      rw [List.find?_eq_none.mpr (fun a ha => by
        rw [decide_eq_true_iff]
        rcases List.mem_cons.mp ha with rfl | ha
        · omega
        · have := O.after h a ha; omega)] at q
      exact ⟨rfl, q⟩
    · rename_i c1; rw [i_lt] at c1
      rw [List.find?_cons] at q
      refine ⟨O.2.1.kn hi, ?_⟩
      split
      · rename_i c2; rw [i_lt] at c2
        rw [decide_eq_false (by omega)] at q
        exact O.next h (by omega) (onO_v (ih (P ++ [i]) (by rw [h]; simp) q))
      · rename_i c2; rw [i_lt] at c2
        rw [decide_eq_true (show (K 1 i).toInt ≤ y.toInt ∧ x.toInt ≤ (K 2 i).toInt by omega)] at q
        exact ⟨O.2.1.kn hi, rfl, q⟩
theorem C_firstOverlap (O : RO g c t b na K T N W) (hd : 1 < d) (q1 : ¬ y.toInt < x.toInt → R (some (vi (idI ((live K T).find? fun a => decide ((K 1 a).toInt ≤ y.toInt ∧ x.toInt ≤ (K 2 a).toInt))))) g) (q2 : y.toInt < x.toInt → thr lim X 1 g) : WM lim d j_It_firstOverlap [vr (some c), vi x, vi y] g R X :=
  B_It_firstOverlap_0 ⟨by omega, C_range (fun h => O.first hd (onO_v (C_fo13 O hd (live K T) [] rfl (q1 h)))) q2⟩
theorem C_rank17 (O : RO g c t b na K T N W) (hd : 1 < d) {i0 : Nat} (h0 : i0 ∈ live K T) (q : ∀ P S, live K T = P ++ i0 :: S → R (some (vi (nI P.length))) g) : ∀ (S P : List Nat), live K T = P ++ S → i0 ∈ S → WP lim d j_It_rank 17 [some (vr (some c)), some (vi x), some (vr (some (na i0))), some (vi (nI P.length)), some (vr (oa na (hdI S)))] [] g R X := by
  intro S
  induction S with
  | nil => intro P _ h; cases h
  | cons i S ih =>
    intro P h hin
    have hi := O.at h
    have e0 := O.2.1.oeq (x := nI i) (Or.inr ⟨i, hi, rfl⟩) (lvT h0).1
    refine B_It_rank_17 ?_
    rw [oa_s (O.2.1.lt hi)] at e0
    rw [show hdI (i :: S) = nI i from rfl, oa_s (O.2.1.lt hi), ifN_s, onR_s, nI_1]
    split
    · rename_i c1
      have : i = i0 := nI_inj (O.2.1.lt hi) (O.2.1.lt (lvT h0).1) (e0.mp c1)
      subst this
      exact ⟨rfl, q P S h⟩
    · rename_i c1
      have hne : i0 ≠ i := fun e => c1 (by rw [e])
      have hS : i0 ∈ S := (List.mem_cons.mp hin).resolve_left hne
      refine O.next h (by omega) (onO_v ?_)
      rw [show P.length + 1 = (P ++ [i]).length by simp]
      exact ih (P ++ [i]) (by rw [h]; simp) hS
theorem C_rank (O : RO g c t b na K T N W) (hd : 2 < d) (q1 : ∀ i, i ∈ live K T → x = nI i → ∀ P S, live K T = P ++ i :: S → R (some (vi (nI P.length))) g) (q2 : ¬ (ix x N ∧ K 4 x.toNatClampNeg = 0) → thr lim X 3 g) : WM lim d j_It_rank [vr (some c), vi x] g R X := by
  refine B_It_rank_0 ⟨all1.mpr O.1.1, by omega, C_liveN O (by omega) (fun i hi e => onO_v (O.first (by omega) (onO_v ?_))) q2⟩
  rw [← nI_0]
  exact C_rank17 O (by omega) hi (q1 i hi e) (live K T) [] rfl hi
theorem C_sel10 (O : RO g c t b na K T N W) (hd : 1 < d) (q1 : ∀ P i S, live K T = P ++ i :: S → x = nI P.length → R (some (vi (nI i))) g) (q2 : ¬ ix x (live K T).length → thr lim X 4 g) : ∀ (S P : List Nat), live K T = P ++ S → (∀ k, k < P.length → x ≠ nI k) → WP lim d j_It_select 10 [some (vr (some c)), some (vi x), some (vi (nI P.length)), some (vr (oa na (hdI S)))] [] g R X := by
  have hlen : (live K T).length ≤ 100 := by have := O.2.2.1.len; have := O.2.2.1.2.2.2.2.2.2.2.2.2.1; omega
  intro S
  induction S with
  | nil =>
    intro P h hk
    refine B_It_select_10 (by
      rw [show hdI [] = (-1 : Int32) from rfl, oa_n]
      refine ⟨rfl, q2 (fun c => ?_)⟩
      rw [List.append_nil] at h
      obtain ⟨k, hk2, e⟩ := ix_ex c (by omega)
      exact hk k (by rw [← h]; exact hk2) e)
  | cons i S ih =>
    intro P h hk
    have hi := O.at h
    refine B_It_select_10 ?_
    rw [show hdI (i :: S) = nI i from rfl, oa_s (O.2.1.lt hi), ifN_s, onR_s, O.2.1.id hi, onR_s, nI_1]
    split
    · rename_i c1; exact ⟨O.2.1.kn hi, rfl, q1 P i S h c1.symm⟩
    · rename_i c1
      refine O.next h (by omega) (onO_v ?_)
      have hl : (P ++ [i]).length = P.length + 1 := by simp
      rw [← hl]
      refine ih (P ++ [i]) (by rw [h]; simp) (fun k hk2 => ?_)
      rw [hl] at hk2
      by_cases e : k = P.length
      · rw [e]; exact fun e => c1 e.symm
      · exact hk k (by omega)
theorem C_select (O : RO g c t b na K T N W) (hd : 1 < d) (q1 : ∀ P i S, live K T = P ++ i :: S → x = nI P.length → R (some (vi (nI i))) g) (q2 : ¬ ix x (live K T).length → thr lim X 4 g) : WM lim d j_It_select [vr (some c), vi x] g R X := by
  refine B_It_select_0 (O.first hd (onO_v ?_))
  rw [← nI_0]
  exact C_sel10 O hd q1 q2 (live K T) [] rfl (fun k hk => by cases hk)
theorem C_sc10 (O : RO g c t b na K T N W) (hd : 1 < d) : ∀ (S P : List Nat) (acc : Int32), live K T = P ++ S → R (some (vi (acc + isum (fun a => if (K 1 a).toInt ≤ x.toInt ∧ x.toInt ≤ (K 2 a).toInt then 1 else 0) S))) g → WP lim d j_It_stabCount 10 [some (vr (some c)), some (vi x), some (vi acc), some (vr (oa na (hdI S)))] [] g R X := by
  intro S
  induction S with
  | nil => intro P acc _ q; exact B_It_stabCount_10 (by rw [show hdI [] = (-1 : Int32) from rfl, oa_n]; exact ⟨rfl, by rw [show isum _ [] = (0 : Int32) from rfl, i32_zero] at q; exact q⟩)
  | cons i S ih =>
    intro P acc h q
    have hi := O.at h
    refine B_It_stabCount_10 ?_
    rw [show hdI (i :: S) = nI i from rfl, oa_s (O.2.1.lt hi), ifN_s, onR_s, O.2.1.lo hi, onR_s, O.2.1.hi hi, onR_s, onR_s]
    refine ⟨O.2.1.kn hi, ?_⟩
    split
    · rename_i c1; rw [i_lt] at c1
      rw [isum_zero (fun a ha => if_neg (by
        rcases List.mem_cons.mp ha with rfl | ha
        · omega
        · have := O.after h a ha; omega)), i32_zero] at q
      exact ⟨rfl, q⟩
    · rename_i c1; rw [i_lt] at c1
      refine ⟨O.2.1.kn hi, ?_⟩
      rw [show isum (fun a => if (K 1 a).toInt ≤ x.toInt ∧ x.toInt ≤ (K 2 a).toInt then (1 : Int32) else 0) (i :: S) = (if (K 1 i).toInt ≤ x.toInt ∧ x.toInt ≤ (K 2 i).toInt then 1 else 0) + isum (fun a => if (K 1 a).toInt ≤ x.toInt ∧ x.toInt ≤ (K 2 a).toInt then 1 else 0) S from rfl, ← i32_assoc] at q
      split
      · rename_i c2; rw [i_lt] at c2
        rw [if_neg (by omega)] at q
        exact O.next h (by omega) (onO_v (ih (P ++ [i]) _ (by rw [h]; simp) q))
      · rename_i c2; rw [i_lt] at c2
        rw [if_pos (by omega)] at q
        exact O.next h (by omega) (onO_v (ih (P ++ [i]) _ (by rw [h]; simp) q))
theorem C_stabCount (O : RO g c t b na K T N W) (hd : 1 < d) (q : R (some (vi (isum (fun a => if (K 1 a).toInt ≤ x.toInt ∧ x.toInt ≤ (K 2 a).toInt then 1 else 0) (live K T)))) g) : WM lim d j_It_stabCount [vr (some c), vi x] g R X :=
  B_It_stabCount_0 (O.first hd (onO_v (C_sc10 O hd (live K T) [] 0 rfl (by rw [i32_comm, i32_zero]; exact q))))
theorem C_sw10 (O : RO g c t b na K T N W) (hd : 1 < d) : ∀ (S P : List Nat) (acc : Int32), live K T = P ++ S → R (some (vi (acc + isum (fun a => if (K 1 a).toInt ≤ x.toInt ∧ x.toInt ≤ (K 2 a).toInt then K 3 a else 0) S))) g → WP lim d j_It_stabWeight 10 [some (vr (some c)), some (vi x), some (vi acc), some (vr (oa na (hdI S)))] [] g R X := by
  intro S
  induction S with
  | nil => intro P acc _ q; exact B_It_stabWeight_10 (by rw [show hdI [] = (-1 : Int32) from rfl, oa_n]; exact ⟨rfl, by rw [show isum _ [] = (0 : Int32) from rfl, i32_zero] at q; exact q⟩)
  | cons i S ih =>
    intro P acc h q
    have hi := O.at h
    refine B_It_stabWeight_10 ?_
    rw [show hdI (i :: S) = nI i from rfl, oa_s (O.2.1.lt hi), ifN_s, onR_s, O.2.1.lo hi, onR_s, O.2.1.hi hi, onR_s, onR_s, onR_s, O.2.1.we hi]
    refine ⟨O.2.1.kn hi, ?_⟩
    split
    · rename_i c1; rw [i_lt] at c1
      rw [isum_zero (fun a ha => if_neg (by
        rcases List.mem_cons.mp ha with rfl | ha
        · omega
        · have := O.after h a ha; omega)), i32_zero] at q
      exact ⟨rfl, q⟩
    · rename_i c1; rw [i_lt] at c1
      refine ⟨O.2.1.kn hi, ?_⟩
      rw [show isum (fun a => if (K 1 a).toInt ≤ x.toInt ∧ x.toInt ≤ (K 2 a).toInt then K 3 a else (0 : Int32)) (i :: S) = (if (K 1 i).toInt ≤ x.toInt ∧ x.toInt ≤ (K 2 i).toInt then K 3 i else 0) + isum (fun a => if (K 1 a).toInt ≤ x.toInt ∧ x.toInt ≤ (K 2 a).toInt then K 3 a else 0) S from rfl, ← i32_assoc] at q
      split
      · rename_i c2; rw [i_lt] at c2
        rw [if_neg (by omega)] at q
        exact O.next h (by omega) (onO_v (ih (P ++ [i]) _ (by rw [h]; simp) q))
      · rename_i c2; rw [i_lt] at c2
        rw [if_pos (by omega)] at q
        exact ⟨O.2.1.kn hi, O.next h (by omega) (onO_v (ih (P ++ [i]) _ (by rw [h]; simp) q))⟩
theorem C_stabWeight (O : RO g c t b na K T N W) (hd : 1 < d) (q : R (some (vi (isum (fun a => if (K 1 a).toInt ≤ x.toInt ∧ x.toInt ≤ (K 2 a).toInt then K 3 a else 0) (live K T)))) g) : WM lim d j_It_stabWeight [vr (some c), vi x] g R X :=
  B_It_stabWeight_0 (O.first hd (onO_v (C_sw10 O hd (live K T) [] 0 rfl (by rw [i32_comm, i32_zero]; exact q))))
end CASK
