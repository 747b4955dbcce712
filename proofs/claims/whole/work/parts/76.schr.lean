theorem bf_congr {M M' : MT} (h : ∀ r i, 1 ≤ r → r ≤ 4 → M' r i = M r i) : ∀ (f : Nat) (l : List Nat), bf M' f l = bf M f l := by
  intro f
  induction f with
  | zero => intro l; rfl
  | succ f ih =>
    intro l
    cases l with
    | nil => rfl
    | cons a l =>
      have hf : (l.filter fun b => decide ((M' 2 a).toInt < (M' 1 b).toInt)) = l.filter fun b => decide ((M 2 a).toInt < (M 1 b).toInt) := List.filter_congr (fun b _ => by rw [h 2 a (by decide) (by decide), h 1 b (by decide) (by decide)])
      show (if M' 4 a = 0 then max (bf M' f l) ((M' 3 a).toInt + bf M' f (l.filter _)) else bf M' f l) = (if M 4 a = 0 then max (bf M f l) ((M 3 a).toInt + bf M f (l.filter _)) else bf M f l)
      rw [hf, ih, ih, h 4 a (by decide) (by decide), h 3 a (by decide) (by decide)]
theorem bl_congr {M M' : MT} (h : ∀ r i, 1 ≤ r → r ≤ 4 → M' r i = M r i) (l : List Nat) : bl M' l = bl M l := bf_congr h _ l
theorem schF_congr {M M' : MT} (h : ∀ r i, 1 ≤ r → r ≤ 4 → M' r i = M r i) {x : Int32} : ∀ (l : List Nat) (bd : Int) (n : Nat), schF M' x l bd n = schF M x l bd n := by
  intro l
  induction l with
  | nil => intro bd n; rfl
  | cons a l ih =>
    intro bd n
    show (if (M' 1 a).toInt ≤ bd then schF M' x l bd n else if bl M' l < bl M' (a :: l) then (if nI n = x then some a else schF M' x l (M' 2 a).toInt (n + 1)) else schF M' x l bd n) = (if (M 1 a).toInt ≤ bd then schF M x l bd n else if bl M l < bl M (a :: l) then (if nI n = x then some a else schF M x l (M 2 a).toInt (n + 1)) else schF M x l bd n)
    rw [h 1 a (by decide) (by decide), h 2 a (by decide) (by decide), bl_congr h, bl_congr h, ih, ih]
theorem TI.wok {M : MT} {T : Tr} {N : Nat} {W : Int} (I : TI M T N W) (h0 : 0 ≤ W) (h1 : W ≤ 1000000) : Wok M (live M T) W := by
  refine ⟨h0, h1, ?_, fun a ha => ?_, fun a ha => ⟨(lvT ha).2, ?_⟩, I.live_sorted⟩
  · have := I.len; have := I.2.2.2.2.2.2.2.2.2.1; omega
  · exact I.2.2.2.2.2.2.2.1 a ((I.mem_live a).mp ha).1
  · exact (I.2.2.2.2.2.2.1 a ((I.mem_live a).mp ha).1).2.1
def PSch (M M' : MT) : Prop := ∀ r i, r ≠ 9 → r ≠ 13 → ¬ (r = 0 ∧ i = 17) → M' r i = M r i
section SCHS
variable {z : Nat × Nat} {d : Nat} {M : MT} {Q : Option AV → MT → Prop} {N : Nat} {x : Int32} {T : Tr} {W : Int}
theorem bl_le {M : MT} {a : Nat} {l : List Nat} : bl M l ≤ bl M (a :: l) := by rw [bl_cons]; split <;> omega
theorem S_layBest (I : TI M T N W) (h0 : 0 ≤ W) (h1 : W ≤ 1000000) (hd : 1 < d) (q : ∀ M', PSch M M' → (∀ P S, live M T = P ++ S → M' 13 P.length = bI M S) → Laid M' (live M T) → Q none M') : WQ z d j_Mo_layBest [vr (some 0)] M Q := by
  refine M_layBest_0 ⟨by omega, S_layRow I.1 I.2.1 (by omega) (fun l M1 hp r1 r2 r3 => ?_)⟩
  have hl := I.row r3
  subst hl
  have hlen : (live M T).length ≤ 100 := by have := I.len; have := I.2.2.2.2.2.2.2.2.2.1; omega
  have L1 := Laid.of I.2.1 r1 r2 r3
  rw [up2_ne (by omega), r2, nI_clamp (by omega)]
  refine ⟨ix_nI (by omega) (by decide), ?_⟩
  have hrow : ∀ r i, 1 ≤ r → r ≤ 4 → up2 M1 13 (live M T).length 0 r i = M r i := fun r i a b => by rw [up2_ne (by omega), hp r i (by omega) (by omega)]
  have hW := I.wok h0 h1
  have hW' : Wok (up2 M1 13 (live M T).length 0) (live M T) W := by
    obtain ⟨w1, w2, w3, w4, w5, w6⟩ := hW
    refine ⟨w1, w2, w3, fun a ha => by rw [hrow 3 a (by decide) (by decide)]; exact w4 a ha, fun a ha => by rw [hrow 4 a (by decide) (by decide), hrow 1 a (by decide) (by decide), hrow 2 a (by decide) (by decide)]; exact w5 a ha, w6.imp (fun {u v} y => (less_cong (fun i => ⟨hrow 1 i (by decide) (by decide), hrow 2 i (by decide) (by decide)⟩)).mpr y)⟩
  have L2 : Laid (up2 M1 13 (live M T).length 0) (live M T) := ⟨fun j b hj => by rw [up2_ne (by omega)]; exact L1.1 j b hj, by rw [up2_ne (by omega)]; exact L1.2.1, L1.2.2.1, L1.2.2.2⟩
  refine L_best21 (M0 := up2 M1 13 (live M T).length 0) (by omega) L2 hW' (fun M' pb hb => q M' (fun r i a1 a2 a3 => ?_) (fun P S h => ?_) ⟨fun j b hj => ?_, ?_, L2.2.2.1, L2.2.2.2⟩) (live M T) [] _ (by simp) (fun _ _ _ => rfl) (fun P' S' h hle => ?_)
  · rw [pb r i a2, up2_ne (by omega), hp r i a1 a3]
  · rw [hb P S h]; unfold bI; rw [bl_congr hrow]
  · rw [pb 9 j (by decide)]; exact L2.1 j b hj
  · rw [pb 0 17 (by decide)]; exact L2.2.1
  · have hS : S' = [] := by
      have := congrArg List.length h
      rw [List.length_append] at this
      exact List.length_eq_zero_iff.mp (by omega)
    have hP : P' = live M T := by rw [h, hS, List.append_nil]
    rw [hS, hP, up2_at]; rfl
theorem S_scheduleWeight (I : TI M T N W) (h0 : 0 ≤ W) (h1 : W ≤ 1000000) (hd : 2 < d) (q : ∀ M', PSch M M' → Q (some (vi (bI M (live M T)))) M') : WQ z d j_Mo_scheduleWeight [vr (some 0)] M Q := by
  refine M_scheduleWeight_0 ⟨by omega, S_layBest I h0 h1 (by omega) (fun M' hp hb _ => ⟨by rw [← nI_0]; exact ix_nI (by decide) (by decide), ?_⟩)⟩
  rw [show (0 : Int32).toNatClampNeg = ([] : List Nat).length from rfl, hb [] (live M T) rfl]
  exact q M' hp
theorem L_sch31 {M0 : MT} {row : List Nat} (hd : 0 < d) (hW : Wok M0 row W) (L : Laid M row) (hr : ∀ r i, 1 ≤ r → r ≤ 4 → M r i = M0 r i) (hb : ∀ P S, row = P ++ S → M 13 P.length = bI M0 S) (qn : schF M0 x row (-1001) 0 = none → Q (some (vi 0)) (thn M 1)) (qs : ∀ a, schF M0 x row (-1001) 0 = some a → Q (some (vi (nI a))) M) : ∀ (S P : List Nat) (sm bd : Int32) (n : Nat) (l6 : Option AV), row = P ++ S → n ≤ P.length → sm.toInt + bl M0 (S.filter fun b => decide (bd.toInt < (M0 1 b).toInt)) = bl M0 row → schF M0 x S bd.toInt n = schF M0 x row (-1001) 0 →
    WK z d j_Mo_scheduled 31 [some (vr (some 0)), some (vi x), some (vi sm), some (vi (nI n)), some (vi bd), some (vi (nI P.length)), l6] [] M Q := by
  have hlen := hW.2.2.1
  intro S
  induction S with
  | nil =>
    intro P sm bd n l6 h _ _ e
    refine M_scheduled_31 ?_
    rw [if_neg (Laid.fin (h ▸ L : Laid M (P ++ [])))]
    exact ⟨hd, M_fails_0 (qn (e.symm.trans rfl))⟩
  | cons a S ih =>
    intro P sm bd n l6 h hn hs e
    obtain ⟨h1, h2, h3, h4, h5, h6, h7, h8⟩ := Laid.at (h ▸ L : Laid M (P ++ a :: S))
    have harow : a ∈ row := by rw [h]; simp
    have hlr : row.length = P.length + (S.length + 1) := by rw [h, List.length_append, List.length_cons]
    have hSr : ∀ z ∈ S, z ∈ row := fun z hz => by rw [h]; simp [hz]
    have hsort := hW.2.2.2.2.2
    rw [h, List.pairwise_append, List.pairwise_cons] at hsort
    have hb1 := hb (P ++ [a]) S (by rw [h]; simp)
    rw [show (P ++ [a]).length = P.length + 1 by simp] at hb1
    have hb0 := hb [] row rfl
    have e' : (if (M0 1 a).toInt ≤ bd.toInt then schF M0 x S bd.toInt n else if bl M0 S < bl M0 (a :: S) then (if nI n = x then some a else schF M0 x S (M0 2 a).toInt (n + 1)) else schF M0 x S bd.toInt n) = schF M0 x row (-1001) 0 := e
    have hPn : (P ++ [a]).length = P.length + 1 := by simp
    refine M_scheduled_31 ?_
    rw [if_pos h1, h3, h5, hr 1 a (by decide) (by decide), hr 2 a (by decide) (by decide), hr 3 a (by decide) (by decide), nI_1, nI_1, nI_clamp (by omega), hb1, show (0 : Int32).toNatClampNeg = ([] : List Nat).length from rfl, hb0]
    refine ⟨h2, h4, ?_⟩
    by_cases c1 : bd < M0 1 a
    · rw [if_pos c1]
      rw [i_lt] at c1
      rw [if_neg (by omega)] at e'
      have hfS : (S.filter fun b => decide (bd.toInt < (M0 1 b).toInt)) = S := List.filter_eq_self.mpr (fun b hb' => decide_eq_true (by have := less_lo (hsort.2.1.1 b hb'); omega))
      rw [List.filter_cons, if_pos (decide_eq_true c1), hfS] at hs
      have w1 := hW.sub (l := S) hSr (by omega)
      have w3 := hW.sub (l := a :: S) (fun z hz => (List.mem_cons.mp hz).elim (fun e => by rw [e]; exact harow) (hSr z)) (by simp; omega)
      have w4 := hW.sub (l := row) (fun z hz => hz) (by omega)
      have hle := bl_le (M := M0) (a := a) (l := S)
      have ceq : (sm + bI M0 S = bI M0 row) ↔ bl M0 S = bl M0 (a :: S) := by
        rw [i_eq, i_add (by rw [w1.2.2]; omega) (by rw [w1.2.2]; omega), w1.2.2, w4.2.2]; omega
      refine ⟨ix_nI (by omega) (by decide), by rw [← nI_0]; exact ix_nI (by decide) (by decide), ?_⟩
      by_cases c2 : sm + bI M0 S = bI M0 row
      · rw [if_pos c2]
        have c2' := ceq.mp c2
        rw [if_neg (by omega)] at e'
        rw [← hPn]
        exact ih (P ++ [a]) sm bd n _ (by rw [h]; simp) (by omega) (by rw [hfS, c2']; exact hs) e'
      · rw [if_neg c2]
        have c2' : ¬ bl M0 S = bl M0 (a :: S) := fun z => c2 (ceq.mpr z)
        rw [if_pos (by omega)] at e'
        by_cases c3 : nI n = x
        · rw [if_pos c3]; rw [if_pos c3] at e'; exact qs a e'.symm
        · rw [if_neg c3]; rw [if_neg c3] at e'
          refine ⟨h4, h4, ?_⟩
          rw [← hPn]
          have hfl := List.length_filter_le (fun b => decide ((M0 2 a).toInt < (M0 1 b).toInt)) S
          have w5 := hW.sub (l := S.filter fun b => decide ((M0 2 a).toInt < (M0 1 b).toInt)) (fun z hz => hSr z (List.mem_filter.mp hz).1) (by omega)
          have hbc : bl M0 (a :: S) = (M0 3 a).toInt + bl M0 (S.filter fun b => decide ((M0 2 a).toInt < (M0 1 b).toInt)) := by
            rw [bl_cons, if_pos (hW.2.2.2.2.1 a harow).1] at c2' ⊢; omega
          have wa := hW.2.2.2.1 a harow
          have w10 := hW.2.1
          refine ih (P ++ [a]) _ (M0 2 a) (n + 1) _ (by rw [h]; simp) (by omega) ?_ e'
          rw [i_add (by omega) (by omega)]; omega
    · rw [if_neg c1]
      rw [i_lt] at c1
      rw [if_pos (by omega)] at e'
      rw [List.filter_cons, if_neg (by rw [decide_eq_true_iff]; omega)] at hs
      rw [← hPn]
      exact ih (P ++ [a]) sm bd n _ (by rw [h]; simp) (by omega) hs e'
theorem S_scheduled (I : TI M T N W) (h0 : 0 ≤ W) (h1 : W ≤ 1000000) (hd : 2 < d) (q1 : x.toInt < 0 → Q (some (vi 0)) (thn M 1)) (q2 : 0 ≤ x.toInt → schF M x (live M T) (-1001) 0 = none → ∀ M', PSch (thn M 0) M' → Q (some (vi 0)) (thn M' 1)) (q3 : 0 ≤ x.toInt → ∀ a, schF M x (live M T) (-1001) 0 = some a → ∀ M', PSch (thn M 0) M' → Q (some (vi (nI a))) M') : WQ z d j_Mo_scheduled [vr (some 0), vi x] M Q := by
  have I0 : TI (thn M 0) T N W := TI_thn I
  refine M_scheduled_0 ?_
  split
  · rename_i c; rw [i_lt] at c; exact S_fails' (by omega) (q1 c)
  · rename_i c; rw [i_lt, show (0 : Int32).toInt = 0 from rfl] at c
    refine ⟨by omega, S_layBest I0 h0 h1 (by omega) (fun M' hp hb L => ?_)⟩
    rw [live_thn] at hb L
    have hr0 : ∀ r i, 1 ≤ r → r ≤ 4 → thn M 0 r i = M r i := fun r i a b => thn_ne (by omega)
    have hbI : ∀ S, bI (thn M 0) S = bI M S := fun S => by unfold bI; rw [bl_congr hr0]
    have hr : ∀ r i, 1 ≤ r → r ≤ 4 → M' r i = M r i := fun r i a b => (hp r i (by omega) (by omega) (by omega)).trans (hr0 r i a b)
    have := L_sch31 (z := z) (d := d) (Q := Q) (x := x) (M0 := M) (row := live M T) (by omega) (I.wok h0 h1) L hr (fun P S h => (hb P S h).trans (hbI S)) (fun hn => q2 (by omega) hn M' hp) (fun a ha => q3 (by omega) a ha M' hp) (live M T) [] 0 (-1001) 0 none rfl (by simp) (by
      rw [List.filter_eq_self.mpr (fun b hb' => decide_eq_true (by
        have := I.2.2.2.2.2.2.1 b ((I.mem_live b).mp hb').1
        rw [show (-1001 : Int32).toInt = -1001 from rfl]; omega))]
      rw [show (0 : Int32).toInt = 0 from rfl]; omega) rfl
    rw [nI_0, show nI ([] : List Nat).length = (0 : Int32) from rfl] at this
    exact this
end SCHS
