/-! ===== the class's schedules ===== -/
theorem split_uniq {i : Nat} : ∀ {A A' B B' : List Nat}, (A ++ i :: B).Nodup → A ++ i :: B = A' ++ i :: B' → A.length = A'.length := by
  intro A
  induction A with
  | nil =>
    intro A' B B' hn h
    cases A' with
    | nil => rfl
    | cons x A' =>
      have h := List.cons.inj h
      have hn : (i :: B).Nodup := hn
      rw [List.nodup_cons] at hn
      exact (hn.1 (by rw [h.2]; simp)).elim
  | cons a A ih =>
    intro A' B B' hn h
    have hn : (a :: (A ++ i :: B)).Nodup := hn
    rw [List.nodup_cons] at hn
    cases A' with
    | nil =>
      have h := List.cons.inj h
      exact (hn.1 (by rw [h.1]; simp)).elim
    | cons x A' =>
      have h := List.cons.inj h
      rw [List.length_cons, List.length_cons, ih hn.2 h.2]
section SCHC
variable {g : AHp} {c t b : Nat} {na : Nat → Nat} {K : MT} {T : Tr} {N : Nat} {W : Int} {lim : Nat × Nat} {d : Nat} {R : RT} {X : XT} {x : Int32}
def BsP (K K' : MT) (T : Tr) (n : Nat) : Prop := (∀ r i, r ≠ 42 → K' r i = K r i) ∧ (∀ P j S, ino T = P ++ j :: S → n ≤ P.length → K' 42 j = bI K (j :: S))
theorem TI.bs (I : TI K T N W) (h0 : 0 ≤ W) (h1 : W ≤ 1000000) {l : List Nat} (hl : ∀ z ∈ l, z ∈ ino T) (hlen : l.length ≤ 100) : 0 ≤ bl K l ∧ bl K l ≤ 100000000 ∧ (bI K l).toInt = bl K l := by
  have := bl_bd h0 l.length l (Nat.le_refl _) (fun a ha => I.2.2.2.2.2.2.2.1 a (I.lt (hl a ha)).1)
  have h2 : (l.length : Int) * W ≤ 100 * 1000000 := Int.mul_le_mul (by omega) h1 h0 (by omega)
  refine ⟨this.1, by omega, ?_⟩
  unfold bI
  rw [Int32.toInt_ofInt]; exact bm (by omega) (by omega)
/-- the best from a place of the chain on -/
theorem C_bestFrom {g0 g : AHp} {K' : MT} {n : Nat} (V : CV g0 g t b na (fun i => i ∈ ino T) K') (B : BsP K K' T n) {P S : List Nat} (h : ino T = P ++ S) (hn : n ≤ P.length) {o : Option Nat} (ho : o = oa na (hdI S)) (q : R (some (vi (bI K S))) g) : WM lim d j_It_bestFrom [vr o] g R X := by
  subst ho
  refine B_It_bestFrom_0 ?_
  cases S with
  | nil => rw [show hdI [] = (-1 : Int32) from rfl, oa_n]; exact ⟨rfl, q⟩
  | cons j S =>
    have hj : j ∈ ino T := by rw [h]; simp
    rw [show hdI (j :: S) = nI j from rfl, oa_s (V.lt hj), ifN_s, onR_s, V.be hj, B.2 P j S h hn]
    exact ⟨V.kn hj, rfl, q⟩
theorem C_fb5 {g0 g : AHp} {K' : MT} (V : CV g0 g t b na (fun i => i ∈ ino T) K') (C : CH K' (ino T)) {i : Nat} (hi : i ∈ ino T) : ∀ (S P : List Nat), ino T = P ++ S → (∀ P2 S2, S = P2 ++ S2 → (∀ a ∈ P2, (K' 1 a).toInt ≤ (K' 2 i).toInt) → (S2 = [] ∨ ∃ y S', S2 = y :: S' ∧ (K' 2 i).toInt < (K' 1 y).toInt) → R (some (vr (oa na (hdI S2)))) g) → WP lim d j_No_firstBeyond 5 [some (vr (some (na i))), some (vr (oa na (hdI S)))] [] g R X := by
  intro S
  induction S with
  | nil => intro P _ q; exact B_No_firstBeyond_5 (by
      have := q [] [] rfl (fun a ha => by cases ha) (Or.inl rfl)
      rw [show hdI [] = (-1 : Int32) from rfl, oa_n] at this ⊢
      exact ⟨rfl, this⟩)
  | cons j S ih =>
    intro P h q
    have hj : j ∈ ino T := by rw [h]; simp
    have e41 := (CH.at (h ▸ C : CH K' (P ++ j :: S))).2
    refine B_No_firstBeyond_5 ?_
    rw [show hdI (j :: S) = nI j from rfl, oa_s (V.lt hj), ifN_s, onR_s, V.lo hj, V.hi hi, onR_s, (V.af hj).1, e41]
    refine ⟨V.kn hj, V.kn hi, ?_⟩
    split
    · rename_i c1; rw [i_lt] at c1
      have := q [] (j :: S) rfl (fun a ha => by cases ha) (Or.inr ⟨j, S, rfl, c1⟩)
      rw [show hdI (j :: S) = nI j from rfl, oa_s (V.lt hj)] at this
      exact ⟨rfl, this⟩
    · rename_i c1; rw [i_lt] at c1
      exact ⟨V.kn hj, ih (P ++ [j]) (by rw [h]; simp) (fun P2 S2 e h1 h2 => q (j :: P2) S2 (by rw [e]; rfl) (fun a ha => by
        rcases List.mem_cons.mp ha with rfl | ha
        · omega
        · exact h1 a ha) h2)⟩
theorem C_plan8 {g0 : AHp} (I : TI K T N W) (C : CH K (ino T)) (h0 : 0 ≤ W) (h1 : W ≤ 1000000) (hd : 1 < d) (q : ∀ g' K', CV g0 g' t b na (fun i => i ∈ ino T) K' → BsP K K' T 0 → R none g') : ∀ (n : Nat) (P S : List Nat) (g : AHp) (K' : MT), P.length = n → ino T = P ++ S → CV g0 g t b na (fun i => i ∈ ino T) K' → BsP K K' T P.length → WP lim d j_It_planSchedule 8 [some (vr (some c)), some (vr (oa na (laI P)))] [] g R X := by
  have hlen := I.2.2.2.2.2.2.2.2.2.1
  intro n
  induction n with
  | zero =>
    intro P S g K' hn h V B
    have hP : P = [] := List.length_eq_zero_iff.mp hn
    subst hP
    exact B_It_planSchedule_8 (by rw [show laI [] = (-1 : Int32) from rfl, oa_n]; exact ⟨rfl, q g K' V B⟩)
  | succ n ih =>
    intro P S g K' hn h V B
    rcases List.eq_nil_or_concat P with e | ⟨P1, i, e⟩
    · rw [e] at hn; simp at hn
    · rw [List.concat_eq_append] at e
      subst e
      have hl1 : (P1 ++ [i]).length = P1.length + 1 := by simp
      have hn1 : P1.length = n := by omega
      have h' : ino T = P1 ++ i :: S := by rw [h]; simp
      have hi : i ∈ ino T := by rw [h']; simp
      have hlr : (ino T).length = P1.length + (S.length + 1) := by rw [h', List.length_append, List.length_cons]
      have hSr : ∀ z ∈ S, z ∈ ino T := fun z hz => by rw [h']; simp [hz]
      have hnd := I.nodup
      rw [h', List.nodup_append, List.nodup_cons] at hnd
      have e41 : K' 41 i = hdI S := by rw [B.1 41 i (by decide)]; exact (CH.at (h' ▸ C : CH K (P1 ++ i :: S))).2
      have e40 : ∀ K2 : MT, (∀ r z, r ≠ 42 → K2 r z = K r z) → K2 40 i = laI P1 := fun K2 hk => by rw [hk 40 i (by decide)]; exact (CH.at (h' ▸ C : CH K (P1 ++ i :: S))).1
      have wS := I.bs h0 h1 (l := S) hSr (by omega)
      have wiS := I.bs h0 h1 (l := i :: S) (fun z hz => (List.mem_cons.mp hz).elim (fun e => by rw [e]; exact hi) (hSr z)) (by simp; omega)
      have next : ∀ {g2 : AHp} {K2 : MT}, CV g0 g2 t b na (fun i => i ∈ ino T) K2 → (∀ r z, r ≠ 42 → K2 r z = K r z) → (∀ z, z ≠ i → K2 42 z = K' 42 z) → K2 42 i = bI K (i :: S) → hk g2 (na i) = 2 ∧ WP lim d j_It_planSchedule 8 [some (vr (some c)), some (vr (hP g2 (na i) 9))] [] g2 R X := by
        intro g2 K2 V2 hk hz hv
        rw [(V2.bf hi).1, e40 K2 hk]
        refine ⟨V2.kn hi, ih P1 (i :: S) g2 K2 hn1 h' V2 ⟨hk, fun P' j S' hh hle => ?_⟩⟩
        by_cases c' : P'.length = P1.length
        · have := List.append_inj (hh.symm.trans h') c'
          have hj := List.cons.inj this.2
          rw [hj.1, hj.2]; exact hv
        · have hji : j ≠ i := fun e => by
            have hP' : ino T = P' ++ j :: S' := hh
            rw [e] at hP'
            have := split_uniq (by rw [← h']; exact I.nodup) (h'.symm.trans hP')
            omega
          rw [hz j hji]
          exact B.2 P' j S' hh (by rw [hl1]; omega)
      refine B_It_planSchedule_8 ?_
      rw [laI_app, oa_s (V.lt hi), ifN_s, onR_s]
      refine ⟨V.kn hi, by omega, C_bestFrom (K := K) V B (P := P1 ++ [i]) (S := S) h (Nat.le_refl _) (by rw [(V.af hi).1, e41]) (onI_v ?_)⟩
      have V1 : CV g0 (sI g (na i) 11 (bI K S)) t b na (fun i => i ∈ ino T) (up2 K' 42 i (bI K S)) := V.wnI (k := 11) hi (by decide) _
      have k1 : ∀ r z, r ≠ 42 → up2 K' 42 i (bI K S) r z = K r z := fun r z hr => by rw [up2_ne (by omega)]; exact B.1 r z hr
      rw [onR_s, onR_s, V1.st hi, k1 4 i (by decide)]
      refine ⟨V.kn hi, V1.kn hi, ?_⟩
      by_cases c4 : K 4 i = 0
      · rw [if_pos c4]
        simp only [onR_s, V1.be hi, up2_at, V1.we hi, k1 3 i (by decide)]
        refine ⟨V1.kn hi, V1.kn hi, all1.mpr (V1.kn hi), by omega, B_No_firstBeyond_0 ⟨V1.kn hi, ?_⟩⟩
        have C1 : CH (up2 K' 42 i (bI K S)) (ino T) := C.congr (fun z _ => ⟨k1 40 z (by decide), k1 41 z (by decide)⟩) (k1 43 0 (by decide)) (k1 43 1 (by decide))
        rw [(V1.af hi).1, k1 41 i (by decide), show K 41 i = hdI S from (CH.at (h' ▸ C : CH K (P1 ++ i :: S))).2]
        refine C_fb5 V1 C1 hi S (P1 ++ [i]) h (fun P2 S2 e2 h2 h3 => onO_v ⟨by omega, ?_⟩)
        rw [k1 2 i (by decide)] at h2 h3
        have hsort := I.2.2.2.1
        rw [h', List.pairwise_append, List.pairwise_cons] at hsort
        have eS2 : S2 = S.filter fun y => decide ((K 2 i).toInt < (K 1 y).toInt) := sorted_split hsort.2.1.2 (K 2 i).toInt e2 (fun a ha => by have := h2 a ha; rw [k1 1 a (by decide)] at this; exact this) (h3.imp (fun z => z) (fun ⟨y, S', e, z⟩ => ⟨y, S', e, by rw [k1 1 y (by decide)] at z; exact z⟩))
        have B1 : BsP K (up2 K' 42 i (bI K S)) T (P1 ++ [i]).length := by
          refine ⟨k1, fun P' j S' hh hle => ?_⟩
          have hji : j ≠ i := fun e => by
            rw [hl1] at hle
            have hP' : ino T = P' ++ j :: S' := hh
            rw [e] at hP'
            have := split_uniq (by rw [← h']; exact I.nodup) (h'.symm.trans hP')
            omega
          rw [up2_ne (by omega)]; exact B.2 P' j S' hh hle
        refine C_bestFrom (K := K) (P := P1 ++ [i] ++ P2) (S := S2) V1 B1 (by rw [h, e2]; simp) (by rw [List.length_append (as := P1 ++ [i])]; omega) rfl (onI_v ?_)
        have w2 := I.bs h0 h1 (l := S2) (fun z hz => hSr z (by rw [e2]; simp [hz])) (by have := congrArg List.length e2; rw [List.length_append] at this; omega)
        have wa := I.2.2.2.2.2.2.2.1 i (I.lt hi).1
        have ev : (if bI K S < K 3 i + bI K S2 then K 3 i + bI K S2 else bI K S) = bI K (i :: S) := by
          rw [i_eq, i_max, i_add (by rw [w2.2.2]; omega) (by rw [w2.2.2]; omega), wS.2.2, w2.2.2, wiS.2.2, bl_cons, if_pos c4, ← eS2]
        rw [ev]
        have V2 : CV g0 (sI (sI g (na i) 11 (bI K S)) (na i) 11 (bI K (i :: S))) t b na (fun i => i ∈ ino T) (up2 (up2 K' 42 i (bI K S)) 42 i (bI K (i :: S))) := V1.wnI (k := 11) hi (by decide) _
        exact ⟨V1.kn hi, next V2 (fun r z hr => by rw [up2_ne (by omega)]; exact k1 r z hr) (fun z hz => by rw [up2_ne (by omega), up2_ne (by omega)]) up2_at⟩
      · rw [if_neg c4, onR_s]
        exact next V1 k1 (fun z hz => up2_ne (by omega)) (by rw [up2_at]; unfold bI; rw [bl_cons, if_neg c4])
theorem C_plan (O : RO g c t b na K T N W) (h0 : 0 ≤ W) (h1 : W ≤ 1000000) (hd : 1 < d) (q : ∀ g' K', RO g' c t b na K' T N W → BsP K K' T 0 → Fr g g' (own t na (fun i => i ∈ ino T)) → R none g') : WM lim d j_It_planSchedule [vr (some c)] g R X := by
  refine B_It_planSchedule_0 ⟨O.1.1, ?_⟩
  rw [O.1.2, onR_s, O.2.1.la.1, O.2.2.2.1.2.1]
  refine ⟨O.2.1.kt, C_plan8 (g0 := g) O.2.2.1 O.2.2.2.1 h0 h1 hd (fun g' K' V B => ?_) (ino T).length (ino T) [] g K rfl (by simp) O.2.1 ⟨fun _ _ _ => rfl, fun P j S h hle => ?_⟩⟩
  · have hlv : live K' T = live K T := filt_congr (fun z _ => B.1 4 z (by decide))
    exact q g' K' (O.upd V (TI_congr (fun r i a b => B.1 r i (by omega)) (fun i a b => B.1 0 i (by decide)) O.2.2.1) (O.2.2.2.1.congr (fun i _ => ⟨B.1 40 i (by decide), B.1 41 i (by decide)⟩) (B.1 43 0 (by decide)) (B.1 43 1 (by decide))) (by rw [B.1 43 2 (by decide), hlv]; exact O.2.2.2.2.2)) B V.2.2.2.2.2
  · have := congrArg List.length h; rw [List.length_append, List.length_cons] at this; omega
theorem C_scheduleWeight (O : RO g c t b na K T N W) (h0 : 0 ≤ W) (h1 : W ≤ 1000000) (hd : 2 < d) (q : ∀ g' K', RO g' c t b na K' T N W → BsP K K' T 0 → Fr g g' (own t na (fun i => i ∈ ino T)) → R (some (vi (bI K (live K T)))) g') : WM lim d j_It_scheduleWeight [vr (some c)] g R X := by
  refine B_It_scheduleWeight_0 ⟨all1.mpr O.1.1, by omega, C_plan O h0 h1 (by omega) (fun g' K' O' B F => ⟨O'.1.1, ?_⟩)⟩
  rw [O'.1.2, onR_s, O'.2.1.fi.1, O'.2.2.2.1.1]
  refine ⟨O'.2.1.kt, by omega, C_bestFrom (K := K) (P := []) (S := ino T) O'.2.1 B rfl (by simp) rfl (onI_v ⟨rfl, ?_⟩)⟩
  have := q g' K' O' B F
  unfold bI at this ⊢
  rw [show bl K (live K T) = bl K (ino T) from bl_live _ _ (Nat.le_refl _)] at this
  exact this
theorem schF_start {M : MT} {x : Int32} : ∀ (l : List Nat) (b1 b2 : Int) (n : Nat), (∀ a ∈ l, b1 < (M 1 a).toInt ∧ b2 < (M 1 a).toInt) → schF M x l b1 n = schF M x l b2 n := by
  intro l
  induction l with
  | nil => intro b1 b2 n _; rfl
  | cons a l ih =>
    intro b1 b2 n h
    have ha := h a List.mem_cons_self
    show (if (M 1 a).toInt ≤ b1 then schF M x l b1 n else if bl M l < bl M (a :: l) then (if nI n = x then some a else schF M x l (M 2 a).toInt (n + 1)) else schF M x l b1 n) = (if (M 1 a).toInt ≤ b2 then schF M x l b2 n else if bl M l < bl M (a :: l) then (if nI n = x then some a else schF M x l (M 2 a).toInt (n + 1)) else schF M x l b2 n)
    rw [if_neg (show ¬ (M 1 a).toInt ≤ b1 by omega), if_neg (show ¬ (M 1 a).toInt ≤ b2 by omega), ih b1 b2 n (fun z hz => h z (List.mem_cons_of_mem _ hz))]
theorem C_sch18 {K' : MT} (O : RO g c t b na K' T N W) (I : TI K T N W) (B : BsP K K' T 0) (h0 : 0 ≤ W) (h1 : W ≤ 1000000) (hd : 1 < d) : ∀ (S P : List Nat) (n : Nat) (bd : Int32), live K T = P ++ S → (schF K x S bd.toInt n = none → thr lim X 4 g) → (∀ a, schF K x S bd.toInt n = some a → R (some (vi (nI a))) g) → WP lim d j_It_scheduled 18 [some (vr (some c)), some (vi x), some (vi (nI n)), some (vi bd), some (vr (oa na (hdI S)))] [] g R X := by
  have hlv : live K' T = live K T := filt_congr (fun z _ => B.1 4 z (by decide))
  have hlen := I.2.2.2.2.2.2.2.2.2.1
  intro S
  induction S with
  | nil => intro P n bd _ qn _; exact B_It_scheduled_18 (by rw [show hdI [] = (-1 : Int32) from rfl, oa_n]; exact ⟨rfl, qn rfl⟩)
  | cons a S ih =>
    intro P n bd h qn qs
    have h' : live K' T = P ++ a :: S := by rw [hlv]; exact h
    have ha := O.at h'
    obtain ⟨A, Bc, e1, e2, e3⟩ := filter_split h
    have e41 : K' 41 a = hdI Bc := (CH.at (e1 ▸ O.2.2.2.1 : CH K' (A ++ a :: Bc))).2
    have b42 : K' 42 a = bI K (a :: Bc) := B.2 A a Bc e1 (Nat.zero_le _)
    have hBr : ∀ z ∈ Bc, z ∈ ino T := fun z hz => by rw [e1]; simp [hz]
    have hlr : (ino T).length = A.length + (Bc.length + 1) := by rw [e1, List.length_append, List.length_cons]
    have w1 := I.bs h0 h1 (l := Bc) hBr (by omega)
    have w2 := I.bs h0 h1 (l := a :: Bc) (fun z hz => (List.mem_cons.mp hz).elim (fun e => by rw [e, e1]; simp) (hBr z)) (by simp; omega)
    have a4 : K 4 a = 0 := (lvT (T := T) (by rw [h]; simp)).2
    have l1 : bl K S = bl K Bc := by rw [← e3]; exact bl_live _ _ (Nat.le_refl _)
    have l2 : bl K (a :: S) = bl K (a :: Bc) := by
      rw [← bl_live (M := K) _ (a :: Bc) (Nat.le_refl _), List.filter_cons, if_pos (decide_eq_true a4), e3]
    have e : schF K x (a :: S) bd.toInt n = if (K 1 a).toInt ≤ bd.toInt then schF K x S bd.toInt n else if bl K S < bl K (a :: S) then (if nI n = x then some a else schF K x S (K 2 a).toInt (n + 1)) else schF K x S bd.toInt n := rfl
    rw [e, l1, l2] at qn qs
    refine B_It_scheduled_18 ?_
    rw [show hdI (a :: S) = nI a from rfl, oa_s (O.2.1.lt ha)]
    simp only [ifN_s, onR_s, O.2.1.lo ha, B.1 1 a (by decide), (O.2.1.af ha).1, e41, nI_1]
    refine ⟨O.2.1.kn ha, ?_⟩
    by_cases c1 : bd < K 1 a
    · rw [if_pos c1]
      rw [i_lt] at c1
      rw [if_neg (by omega)] at qn qs
      refine ⟨O.2.1.kn ha, by omega, C_bestFrom (K := K) (P := A ++ [a]) (S := Bc) O.2.1 B (by rw [e1]; simp) (Nat.zero_le _) rfl (onI_v ?_)⟩
      simp only [O.2.1.be ha, b42, O.2.1.hi ha, B.1 2 a (by decide), O.2.1.id ha, true_and]
      refine ⟨O.2.1.kn ha, ?_⟩
      by_cases c2 : bl K Bc < bl K (a :: Bc)
      · rw [if_pos (by rw [i_lt, w1.2.2, w2.2.2]; exact c2)]
        rw [if_pos c2] at qn qs
        by_cases c3 : nI n = x
        · rw [if_pos c3]; rw [if_pos c3] at qs; exact ⟨O.2.1.kn ha, qs a rfl⟩
        · rw [if_neg c3]; rw [if_neg c3] at qn qs
          exact ⟨O.2.1.kn ha, O.next h' (by omega) (onO_v (ih (P ++ [a]) (n + 1) (K 2 a) (by rw [h]; simp) qn qs))⟩
      · rw [if_neg (by rw [i_lt, w1.2.2, w2.2.2]; exact c2)]
        rw [if_neg c2] at qn qs
        exact O.next h' (by omega) (onO_v (ih (P ++ [a]) n bd (by rw [h]; simp) qn qs))
    · rw [if_neg c1]
      rw [i_lt] at c1
      rw [if_pos (by omega)] at qn qs
      exact O.next h' (by omega) (onO_v (ih (P ++ [a]) n bd (by rw [h]; simp) qn qs))
theorem C_scheduled (O : RO g c t b na K T N W) (h0 : 0 ≤ W) (h1 : W ≤ 1000000) (hd : 2 < d) (q1 : x.toInt < 0 → ∀ g' K', RO g' c t b na K' T N W → BsP K K' T 0 → Fr g g' (own t na (fun i => i ∈ ino T)) → thr lim X 4 g') (q2 : 0 ≤ x.toInt → schF K x (live K T) (-1001) 0 = none → ∀ g' K', RO g' c t b na K' T N W → BsP K K' T 0 → Fr g g' (own t na (fun i => i ∈ ino T)) → thr lim X 4 g') (q3 : 0 ≤ x.toInt → ∀ a, schF K x (live K T) (-1001) 0 = some a → ∀ g' K', RO g' c t b na K' T N W → BsP K K' T 0 → Fr g g' (own t na (fun i => i ∈ ino T)) → R (some (vi (nI a))) g') : WM lim d j_It_scheduled [vr (some c), vi x] g R X := by
  have hlen : (live K T).length ≤ 100 := by have := O.2.2.1.len; have := O.2.2.1.2.2.2.2.2.2.2.2.2.1; omega
  refine B_It_scheduled_0 ⟨all1.mpr O.1.1, by omega, C_plan O h0 h1 (by omega) (fun g' K' O' B F => ?_)⟩
  have hlv : live K' T = live K T := filt_congr (fun z _ => B.1 4 z (by decide))
  have hst : schF K x (live K T) (-2147483648 : Int32).toInt 0 = schF K x (live K T) (-1001) 0 := schF_start _ _ _ _ (fun a ha => by
    have := O.2.2.1.2.2.2.2.2.2.1 a ((O.2.2.1.mem_live a).mp ha).1
    rw [show (-2147483648 : Int32).toInt = -2147483648 from rfl]; omega)
  refine O'.first (by omega) (onO_v ?_)
  rw [hlv, ← nI_0]
  refine C_sch18 O' O.2.2.1 B h0 h1 (by omega) (live K T) [] 0 _ rfl (fun hn => ?_) (fun a ha => ?_)
  · by_cases hx : x.toInt < 0
    · exact q1 hx g' K' O' B F
    · exact q2 (by omega) (hst ▸ hn) g' K' O' B F
  · by_cases hx : x.toInt < 0
    · have hneg : ∀ (l : List Nat) (bd : Int) (n : Nat), n + l.length ≤ 200 → schF K x l bd n = none := by
        intro l
        induction l with
        | nil => intro bd n _; rfl
        | cons y l ih =>
          intro bd n hb
          rw [List.length_cons] at hb
          show (if (K 1 y).toInt ≤ bd then schF K x l bd n else if bl K l < bl K (y :: l) then (if nI n = x then some y else schF K x l (K 2 y).toInt (n + 1)) else schF K x l bd n) = none
          have hne : ¬ nI n = x := fun e => by rw [← e, nI_toInt (by omega)] at hx; omega
          rw [if_neg hne, ih _ _ (by omega), ih _ _ (by omega)]
          split
          · rfl
          · split <;> rfl
      rw [hneg _ _ _ (by omega)] at ha; cases ha
    · exact q3 (by omega) a (hst ▸ ha) g' K' O' B F
end SCHC
