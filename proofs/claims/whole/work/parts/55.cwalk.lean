/-! ===== the class, asked: what it stands on, and the walk along the live ones ===== -/
def RO (g : AHp) (c t b : Nat) (na : Nat → Nat) (K : MT) (T : Tr) (N : Nat) (W : Int) : Prop :=
  (hk g c = 6 ∧ hP g c 6 = some t) ∧ CV g g t b na (fun i => i ∈ ino T) K ∧ TI K T N W ∧ CH K (ino T) ∧ (∀ i, i < 500 → (i ∈ ino T → hP g b i = some (na i)) ∧ (i ∉ ino T → hP g b i = none)) ∧ K 43 2 = nI (live K T).length
theorem filter_split {p : Nat → Bool} {i : Nat} : ∀ {l P S : List Nat}, l.filter p = P ++ i :: S → ∃ A B, l = A ++ i :: B ∧ A.filter p = P ∧ B.filter p = S := by
  intro l
  induction l with
  | nil => intro P S h; cases P <;> cases h
  | cons a l ih =>
    intro P S h
    rw [List.filter_cons] at h
    by_cases c : p a = true
    · rw [if_pos c] at h
      cases P with
      | nil =>
        have h := List.cons.inj h
        exact ⟨[], l, by rw [h.1]; rfl, rfl, h.2⟩
      | cons x P =>
        have h := List.cons.inj h
        obtain ⟨A, B, e1, e2, e3⟩ := ih h.2
        exact ⟨a :: A, B, by rw [e1]; rfl, by rw [List.filter_cons, if_pos c, e2, h.1], e3⟩
    · rw [if_neg c] at h
      obtain ⟨A, B, e1, e2, e3⟩ := ih h
      exact ⟨a :: A, B, by rw [e1]; rfl, by rw [List.filter_cons, if_neg c, e2], e3⟩
section CWALK
variable {g : AHp} {c t b : Nat} {na : Nat → Nat} {K : MT} {T : Tr} {N : Nat} {W : Int} {lim : Nat × Nat} {d : Nat} {R : RT} {X : XT} {x y : Int32}
theorem onO_v {o : Option Nat} {f : Option Nat → Prop} (h : f o) : onO (some (vr o)) f := h
theorem onI_v {v : Int32} {f : Int32 → Prop} (h : f v) : onI (some (vi v)) f := h
theorem C_lA5 {a : Nat} (V : CV g g t b na (fun i => i ∈ ino T) K) (C : CH K (ino T)) : ∀ (B A : List Nat), ino T = A ++ B → R (some (vr (oa na (hdI (B.filter (fun x => decide (K 4 x = 0))))))) g → WP lim d j_No_liveAfter 5 [some (vr (some a)), some (vr (oa na (hdI B)))] [] g R X := by
  intro B
  induction B with
  | nil => intro A _ q; exact B_No_liveAfter_5 (by rw [show hdI [] = (-1 : Int32) from rfl, oa_n]; exact ⟨rfl, q⟩)
  | cons i B ih =>
    intro A hA q
    have hi : i ∈ ino T := by rw [hA]; exact List.mem_append_right _ List.mem_cons_self
    have e41 := (CH.at (hA ▸ C : CH K (A ++ i :: B))).2
    refine B_No_liveAfter_5 ?_
    rw [show hdI (i :: B) = nI i from rfl, oa_s (V.lt hi), ifN_s, onR_s, V.st hi]
    refine ⟨V.kn hi, ?_⟩
    rw [List.filter_cons] at q
    by_cases h0 : K 4 i = 0
    · rw [if_pos (decide_eq_true h0), show hdI (i :: B.filter (fun x => decide (K 4 x = 0))) = nI i from rfl, oa_s (V.lt hi)] at q
      rw [if_pos h0]; exact ⟨rfl, q⟩
    · rw [if_neg (by rw [decide_eq_false h0]; decide)] at q
      rw [if_neg h0, onR_s, (V.af hi).1, e41]
      exact ⟨V.kn hi, ih (A ++ [i]) (by rw [hA]; simp) q⟩
theorem C_liveAfter (V : CV g g t b na (fun i => i ∈ ino T) K) (C : CH K (ino T)) {P S : List Nat} {i : Nat} (h : live K T = P ++ i :: S) (q : R (some (vr (oa na (hdI S)))) g) : WM lim d j_No_liveAfter [vr (some (na i))] g R X := by
  obtain ⟨A, B, e1, e2, e3⟩ := filter_split h
  have hi : i ∈ ino T := by rw [e1]; exact List.mem_append_right _ List.mem_cons_self
  refine B_No_liveAfter_0 ⟨V.kn hi, ?_⟩
  rw [(V.af hi).1, (CH.at (e1 ▸ C : CH K (A ++ i :: B))).2]
  exact C_lA5 V C B (A ++ [i]) (by rw [e1]; simp) (by rw [e3]; exact q)
theorem C_firstLive (V : CV g g t b na (fun i => i ∈ ino T) K) (C : CH K (ino T)) (hd : 0 < d) (q : R (some (vr (oa na (hdI (live K T))))) g) : WM lim d j_Tr_firstLive [vr (some t)] g R X := by
  refine B_Tr_firstLive_0 ⟨V.kt, ?_⟩
  rw [V.fi.1, C.1]
  unfold live at q
  cases hT : ino T with
  | nil => rw [hT] at q; rw [show hdI [] = (-1 : Int32) from rfl, oa_n]; exact ⟨V.kt, rfl, q⟩
  | cons i B =>
    have hi : i ∈ ino T := by rw [hT]; exact List.mem_cons_self
    rw [hT, List.filter_cons] at q
    rw [show hdI (i :: B) = nI i from rfl, oa_s (V.lt hi), ifN_s, onR_s, V.st hi, onR_s]
    refine ⟨V.kt, V.kn hi, ?_⟩
    by_cases h0 : K 4 i = 0
    · rw [if_pos (decide_eq_true h0), show hdI (i :: B.filter (fun x => decide (K 4 x = 0))) = nI i from rfl, oa_s (V.lt hi)] at q
      rw [if_pos h0]; exact ⟨V.kt, rfl, q⟩
    · rw [if_neg (by rw [decide_eq_false h0]; decide)] at q
      rw [if_neg h0]
      refine ⟨V.kt, all1.mpr (V.kn hi), hd, B_No_liveAfter_0 ⟨V.kn hi, ?_⟩⟩
      rw [(V.af hi).1, (CH.at (A := []) (hT ▸ C : CH K ([] ++ i :: B))).2]
      exact C_lA5 V C B [i] (by rw [hT]; rfl) ⟨rfl, q⟩

theorem lvT {i : Nat} (h : i ∈ live K T) : i ∈ ino T ∧ K 4 i = 0 := by
  have := List.mem_filter.mp h; exact ⟨this.1, of_decide_eq_true this.2⟩
/-- starts the walk: asks the tree for its first live node -/
theorem RO.first (O : RO g c t b na K T N W) (hd : 1 < d) (q : R (some (vr (oa na (hdI (live K T))))) g) : hk g c = 6 ∧ onR (hP g c 6) fun a1 => (∀ q ∈ [((0 : Int), (5 : Nat))], hk g a1 = q.2) ∧ 0 < d ∧ WM lim (d - 1) j_Tr_firstLive [vr (some a1)] g R X := by
  refine ⟨O.1.1, ?_⟩
  rw [O.1.2, onR_s]
  exact ⟨all1.mpr O.2.1.kt, by omega, C_firstLive O.2.1 O.2.2.2.1 (by omega) q⟩
theorem RO.next (O : RO g c t b na K T N W) {P S : List Nat} {i : Nat} (h : live K T = P ++ i :: S) (hd : 0 < d) (q : R (some (vr (oa na (hdI S)))) g) : (∀ q ∈ [((0 : Int), (2 : Nat))], hk g (na i) = q.2) ∧ 0 < d ∧ WM lim (d - 1) j_No_liveAfter [vr (some (na i))] g R X :=
  ⟨all1.mpr (O.2.1.kn (lvT (h ▸ List.mem_append_right _ List.mem_cons_self)).1), hd, C_liveAfter O.2.1 O.2.2.2.1 h q⟩
theorem C_was (O : RO g c t b na K T N W) (q1 : ix x N → R (some (vi 1)) g) (q2 : ¬ ix x N → R (some (vi 0)) g) : WM lim d j_Tr_wasInserted [vr (some t), vi x] g R X := by
  have hN := O.2.2.1.2.1
  refine B_Tr_wasInserted_0 ?_
  rw [O.2.1.ins, O.2.2.1.1]
  simp only [i_lt, nI_toInt (show N < 2 ^ 31 by omega), show (0 : Int32).toInt = 0 from rfl]
  split
  · exact ⟨trivial, b01_0, q2 (fun c => by rw [ix_iff] at c; omega)⟩
  · refine ⟨O.2.1.kt, ?_⟩
    split
    · exact ⟨trivial, b01_1, q1 (by rw [ix_iff]; omega)⟩
    · exact ⟨trivial, b01_0, q2 (fun c => by rw [ix_iff] at c; omega)⟩
theorem RO.in_iff (O : RO g c t b na K T N W) : (∃ i, i ∈ ino T ∧ x = nI i) ↔ ix x N ∧ K 4 x.toNatClampNeg < 2 := by
  have hN := O.2.2.1.2.1
  have hst := O.2.2.1.2.2.2.2.2.1
  constructor
  · rintro ⟨i, hi, rfl⟩
    have h := (O.2.2.1.2.2.2.2.1 i).mp hi
    rw [nI_clamp (by omega)]
    refine ⟨ix_nI h.1 (by omega), ?_⟩
    rcases O.2.2.1.st hi with e | e <;> rw [e] <;> decide
  · rintro ⟨h, h2⟩
    obtain ⟨i, hi, rfl⟩ := ix_ex h (by omega)
    rw [nI_clamp (by omega)] at h2
    exact ⟨i, (O.2.2.1.2.2.2.2.1 i).mpr ⟨hi, fun e => by rw [e] at h2; exact absurd h2 (by decide)⟩, rfl⟩
theorem C_find (O : RO g c t b na K T N W) (hd : 0 < d) (q1 : ∀ i, i ∈ ino T → x = nI i → R (some (vr (some (na i)))) g) (q2 : ¬ (ix x N ∧ K 4 x.toNatClampNeg < 2) → R (some (vr none)) g) : WM lim d j_Tr_find [vr (some t), vi x] g R X := by
  have hN := O.2.2.1.2.1
  have V := O.2.1
  refine B_Tr_find_0 ⟨all1.mpr V.kt, hd, C_was O (fun h => onI_1 ?_) (fun h => onI_0 ⟨rfl, q2 (fun c => h c.1)⟩)⟩
  refine ⟨V.kt, ?_⟩
  rw [V.1.2.2.1, onR_s, V.1.2.2.2.1, V.1.2.2.2.2.1, onR_s, V.1.2.2.2.1, V.1.2.2.2.2.1]
  obtain ⟨i, hi, e⟩ := ix_ex h (by omega)
  subst e
  refine ⟨by omega, ?_⟩
  rw [if_pos (nI_lt (by omega) (by omega)), nI_clamp (by omega)]
  refine ⟨V.kt, rfl, ix_nI (by omega) (by decide), rfl, ?_⟩
  by_cases hT : i ∈ ino T
  · rw [(O.2.2.2.2.1 i (by omega)).1 hT]; exact q1 i hT rfl
  · rw [(O.2.2.2.2.1 i (by omega)).2 hT]
    refine q2 (fun c => ?_)
    obtain ⟨j, hj, e⟩ := O.in_iff.mpr c
    have : i = j := nI_inj (by omega) (V.lt hj) e
    exact hT (this ▸ hj)
theorem C_present (O : RO g c t b na K T N W) (hd : 1 < d) (q1 : ∀ i, i ∈ ino T → x = nI i → R (some (vr (some (na i)))) g) (q2 : ¬ (ix x N ∧ K 4 x.toNatClampNeg < 2) → thr lim X 3 g) : WM lim d j_It_presentNode [vr (some c), vi x] g R X := by
  refine B_It_presentNode_0 ⟨O.1.1, ?_⟩
  rw [O.1.2, onR_s]
  exact ⟨all1.mpr O.2.1.kt, by omega, C_find O (by omega) (fun i hi e => onO_v ⟨rfl, q1 i hi e⟩) (fun h => onO_v ⟨rfl, q2 h⟩)⟩
theorem C_liveN (O : RO g c t b na K T N W) (hd : 1 < d) (q1 : ∀ i, i ∈ live K T → x = nI i → R (some (vr (some (na i)))) g) (q2 : ¬ (ix x N ∧ K 4 x.toNatClampNeg = 0) → thr lim X 3 g) : WM lim d j_It_liveNode [vr (some c), vi x] g R X := by
  have hN := O.2.2.1.2.1
  refine B_It_liveNode_0 ⟨O.1.1, ?_⟩
  rw [O.1.2, onR_s]
  refine ⟨all1.mpr O.2.1.kt, by omega, C_find O (by omega) (fun i hi e => onO_v ?_) (fun h => onO_v ⟨rfl, q2 (fun c => h ⟨c.1, by rw [c.2]; decide⟩)⟩)⟩
  rw [ifN_s, onR_s, O.2.1.st hi]
  refine ⟨O.2.1.kn hi, ?_⟩
  have i5 := O.2.1.lt hi
  split
  · rename_i h0
    exact ⟨rfl, q1 i (List.mem_filter.mpr ⟨hi, decide_eq_true h0⟩) e⟩
  · rename_i h0
    exact ⟨rfl, q2 (fun c => h0 (by have := c.2; rw [e, nI_clamp (by omega)] at this; exact this))⟩
theorem C_idOf (O : RO g c t b na K T N W) {v : Int32} {o : Option Nat} (ho : o = oa na v) (hv : pd (fun i => i ∈ ino T) v) (q : R (some (vi v)) g) : WM lim d j_It_idOf [vr o] g R X := by
  subst ho
  refine B_It_idOf_0 ?_
  rcases O.2.1.nul hv with ⟨e, eo⟩ | ⟨i, hi, e, eo, -⟩
  · rw [eo]; rw [e] at q; exact ⟨rfl, q⟩
  · rw [eo, ifN_s, onR_s, O.2.1.id hi]; rw [e] at q; exact ⟨O.2.1.kn hi, rfl, q⟩
theorem C_low (O : RO g c t b na K T N W) (hd : 2 < d) (q1 : ∀ i, i ∈ ino T → x = nI i → R (some (vi (K 1 i))) g) (q2 : ¬ (ix x N ∧ K 4 x.toNatClampNeg < 2) → thr lim X 3 g) : WM lim d j_It_low [vr (some c), vi x] g R X :=
  B_It_low_0 ⟨all1.mpr O.1.1, by omega, C_present O (by omega) (fun i hi e => onO_v ⟨O.2.1.kn hi, rfl, by rw [O.2.1.lo hi]; exact q1 i hi e⟩) q2⟩
theorem C_high (O : RO g c t b na K T N W) (hd : 2 < d) (q1 : ∀ i, i ∈ ino T → x = nI i → R (some (vi (K 2 i))) g) (q2 : ¬ (ix x N ∧ K 4 x.toNatClampNeg < 2) → thr lim X 3 g) : WM lim d j_It_high [vr (some c), vi x] g R X :=
  B_It_high_0 ⟨all1.mpr O.1.1, by omega, C_present O (by omega) (fun i hi e => onO_v ⟨O.2.1.kn hi, rfl, by rw [O.2.1.hi hi]; exact q1 i hi e⟩) q2⟩
theorem C_weight (O : RO g c t b na K T N W) (hd : 2 < d) (q1 : ∀ i, i ∈ ino T → x = nI i → R (some (vi (K 3 i))) g) (q2 : ¬ (ix x N ∧ K 4 x.toNatClampNeg < 2) → thr lim X 3 g) : WM lim d j_It_weight [vr (some c), vi x] g R X :=
  B_It_weight_0 ⟨all1.mpr O.1.1, by omega, C_present O (by omega) (fun i hi e => onO_v ⟨O.2.1.kn hi, rfl, by rw [O.2.1.we hi]; exact q1 i hi e⟩) q2⟩
theorem C_isRed (O : RO g c t b na K T N W) (hd : 2 < d) (q1 : ∀ i, i ∈ ino T → x = nI i → R (some (vi (K 8 i))) g) (q2 : ¬ (ix x N ∧ K 4 x.toNatClampNeg < 2) → thr lim X 3 g) : WM lim d j_It_isRed [vr (some c), vi x] g R X := by
  have h8 := O.2.2.1.2.2.2.2.2.2.2.2.2.2.2.2
  exact B_It_isRed_0 ⟨all1.mpr O.1.1, by omega, C_present O (by omega) (fun i hi e => onO_v ⟨O.2.1.kn hi, rfl, by rw [O.2.1.re hi]; exact h8 i, by rw [O.2.1.re hi]; exact q1 i hi e⟩) q2⟩
theorem C_parent (O : RO g c t b na K T N W) (hd : 3 < d) (q1 : ∀ i, i ∈ ino T → x = nI i → R (some (vi (K 7 i))) g) (q2 : ¬ (ix x N ∧ K 4 x.toNatClampNeg < 2) → thr lim X 3 g) : WM lim d j_It_parent [vr (some c), vi x] g R X :=
  B_It_parent_0 ⟨all1.mpr O.1.1, by omega, C_present O (by omega) (fun i hi e => onO_v ⟨O.2.1.kn hi, by omega, C_idOf O (O.2.1.pa hi).1 (O.2.1.pa hi).2 (onI_v ⟨rfl, q1 i hi e⟩)⟩) q2⟩
theorem C_child (O : RO g c t b na K T N W) (hd : 3 < d) (q1 : ∀ i, i ∈ ino T → x = nI i → R (some (vi (if y = 0 then K 5 i else K 6 i))) g) (q2 : ¬ (ix x N ∧ K 4 x.toNatClampNeg < 2) → thr lim X 3 g) : WM lim d j_It_child [vr (some c), vi x, vi y] g R X := by
  refine B_It_child_0 ⟨all1.mpr O.1.1, by omega, C_present O (by omega) (fun i hi e => onO_v ?_) q2⟩
  have q := q1 i hi e
  split
  · rename_i h; rw [if_pos h] at q
    exact ⟨O.2.1.kn hi, by omega, C_idOf O (O.2.1.le hi).1 (O.2.1.le hi).2 (onI_v ⟨rfl, q⟩)⟩
  · rename_i h; rw [if_neg h] at q
    exact ⟨O.2.1.kn hi, by omega, C_idOf O (O.2.1.ri hi).1 (O.2.1.ri hi).2 (onI_v ⟨rfl, q⟩)⟩
theorem C_size (O : RO g c t b na K T N W) (q : R (some (vi (nI (live K T).length))) g) : WM lim d j_It_size [vr (some c)] g R X := by
  refine B_It_size_0 ⟨O.1.1, ?_⟩
  rw [O.1.2, onR_s, O.2.1.liv, O.2.2.2.2.2]; exact ⟨O.2.1.kt, rfl, q⟩
theorem C_nodeCount (O : RO g c t b na K T N W) (q : R (some (vi (K 0 11))) g) : WM lim d j_It_nodeCount [vr (some c)] g R X := by
  refine B_It_nodeCount_0 ⟨O.1.1, ?_⟩
  rw [O.1.2, onR_s, O.2.1.nod]; exact ⟨O.2.1.kt, rfl, q⟩
theorem C_rebuildCount (O : RO g c t b na K T N W) (q : R (some (vi (K 0 14))) g) : WM lim d j_It_rebuildCount [vr (some c)] g R X := by
  refine B_It_rebuildCount_0 ⟨O.1.1, ?_⟩
  rw [O.1.2, onR_s, O.2.1.rbs]; exact ⟨O.2.1.kt, rfl, q⟩
theorem C_rebuiltNodes (O : RO g c t b na K T N W) (q : R (some (vi (K 0 15))) g) : WM lim d j_It_rebuiltNodes [vr (some c)] g R X := by
  refine B_It_rebuiltNodes_0 ⟨O.1.1, ?_⟩
  rw [O.1.2, onR_s, O.2.1.rbt]; exact ⟨O.2.1.kt, rfl, q⟩
theorem C_state (O : RO g c t b na K T N W) (hd : 2 < d) (q1 : ix x N → R (some (vi (K 4 x.toNatClampNeg))) g) (q2 : ¬ ix x N → thr lim X 3 g) : WM lim d j_It_state [vr (some c), vi x] g R X := by
  have hN := O.2.2.1.2.1
  refine B_It_state_0 ⟨O.1.1, ?_⟩
  rw [O.1.2, onR_s]
  refine ⟨all1.mpr O.2.1.kt, by omega, C_was O (fun h => onI_1 ⟨O.1.1, ?_⟩) (fun h => onI_0 ⟨rfl, q2 h⟩)⟩
  rw [O.1.2, onR_s]
  obtain ⟨i, hi, e⟩ := ix_ex h (by omega)
  subst e
  have q := q1 h
  rw [nI_clamp (by omega)] at q
  refine ⟨all1.mpr O.2.1.kt, by omega, C_find O (by omega) (fun j hj e => onO_v ?_) (fun h' => onO_v ⟨rfl, ?_⟩)⟩
  · have : i = j := nI_inj (by omega) (O.2.1.lt hj) e
    subst this
    rw [ifN_s, onR_s, O.2.1.st hj]
    refine ⟨O.2.1.kn hj, ?_⟩
    rcases O.2.2.1.st hj with e | e
    · rw [e] at q; rw [if_pos e]; exact ⟨rfl, q⟩
    · rw [e] at q; rw [if_neg (by rw [e]; decide)]; exact ⟨rfl, q⟩
  · rw [nI_clamp (by omega)] at h'
    rcases O.2.2.1.2.2.2.2.2.1 i hi with e | e | e
    · exact (h' ⟨h, by rw [e]; decide⟩).elim
    · exact (h' ⟨h, by rw [e]; decide⟩).elim
    · rw [e] at q; exact q
end CWALK
