/-! ===== the class's remove and addWeight ===== -/
section REMC
variable {g : AHp} {c t b : Nat} {na : Nat → Nat} {K : MT} {T : Tr} {N : Nat} {W : Int} {lim : Nat × Nat} {d : Nat} {R : RT} {X : XT} {x y w : Int32}
theorem RO.c_keep {gB g' : AHp} {Kc : MT} {Z : List Nat} (O : RO g c t b na K T N W) (V' : CV gB g' t b na (fun i => i ∈ ino T) Kc) (NP : NulP g gB b Z) : hk g' c = 6 ∧ hP g' c 6 = some t := by
  have F := V'.2.2.2.2.2
  have hc := F.2.2.2.2 c O.c_own
  have hcb : c ≠ b := fun e => by have h1 := O.1.1; rw [e, O.2.1.1.2.2.2.1] at h1; cases h1
  exact ⟨by rw [F.2.2.1, NP.2.2.1]; exact O.1.1, by rw [hc.2.1, NP.2.2.2.2.2.2.1 c hcb]; exact O.1.2⟩
theorem RO.mark {g' : AHp} {i : Nat} (O : RO g c t b na K T N W) (hi : i ∈ live K T) (V' : CV g g' t b na (fun i => i ∈ ino T) (mkM K T i)) : RO g' c t b na (mkM K T i) T N W := by
  have hro : ∀ r j, r ≠ 4 → ¬ (r = 0 ∧ j = 12) → ¬ (r = 43 ∧ j = 2) → mkM K T i r j = K r j := fun r j a b c => by rw [mk_rows c]; unfold rmM; rw [up2_ne b, up2_ne (by omega)]
  exact O.upd V' (TI_congr (fun r j a b => mk_rows (by omega)) (fun j a b => mk_rows (by omega)) (TI_rm O.2.2.1 hi)) (O.2.2.2.1.congr (fun j _ => ⟨hro 40 j (by omega) (by omega) (by omega), hro 41 j (by omega) (by omega) (by omega)⟩) (hro 43 0 (by omega) (by omega) (by omega)) (hro 43 1 (by omega) (by omega) (by omega))) (by rw [mk_live]; exact up2_at)
/-- the answer after a mark -/
theorem C_gone (O : RO g c t b na K T N W) (hd : 14 < d) {i : Nat} (hi : i ∈ live K T)
    (q1 : ¬ due (rmM K i) → ∀ g', RO g' c t b na (mkM K T i) T N W → Fr g g' (own t na (fun i => i ∈ ino T)) → R (some (vi (nI (live (rmM K i) T).length))) g')
    (q2 : due (rmM K i) → ∀ gB g' Kc, CV gB g' t b na (fun i => i ∈ ino T) Kc → NulP g gB b ((ino T).filter fun z => decide (¬ mkM K T i 4 z = 0)) → RenP (mkM K T i) Kc (live (rmM K i) T) → R (some (vi (nI (live (rmM K i) T).length))) g') :
    WM lim (d - 1) j_Tr_markRemoved [vr (some t), vr (some (na i))] g (fun _ h5 => hk h5 c = 6 ∧ onR (hP h5 c 6) fun a6 => hk h5 a6 = 5 ∧ ([] : List AV) = [] ∧ R (some (vi (hI h5 a6 6))) h5) X := by
  refine C_mark O.2.1 O.2.2.1 O.2.2.2.1 O.2.2.2.2.2 (by omega) hi (fun h g' V' => ?_) (fun h gB g' Kc V' NP RP => ?_)
  · have O' := O.mark hi V'
    refine ⟨O'.1.1, ?_⟩
    rw [O'.1.2, onR_s, V'.liv, show mkM K T i 43 2 = nI (live (rmM K i) T).length from up2_at]
    exact ⟨V'.kt, rfl, q1 h g' O' V'.2.2.2.2.2⟩
  · have hc := O.c_keep V' NP
    refine ⟨hc.1, ?_⟩
    rw [hc.2, onR_s, V'.liv, RP.2.2.2.2.2.2.2.2.2]
    exact ⟨V'.kt, rfl, q2 h gB g' Kc V' NP RP⟩
theorem C_remove (O : RO g c t b na K T N W) (hd : 14 < d) (q0 : ¬ (ix x N ∧ K 4 x.toNatClampNeg = 0) → thr lim X 3 g)
    (q1 : ∀ i, i ∈ live K T → x = nI i → ¬ due (rmM K i) → ∀ g', RO g' c t b na (mkM K T i) T N W → Fr g g' (own t na (fun i => i ∈ ino T)) → R (some (vi (nI (live (rmM K i) T).length))) g')
    (q2 : ∀ i, i ∈ live K T → x = nI i → due (rmM K i) → ∀ gB g' Kc, CV gB g' t b na (fun i => i ∈ ino T) Kc → NulP g gB b ((ino T).filter fun z => decide (¬ mkM K T i 4 z = 0)) → RenP (mkM K T i) Kc (live (rmM K i) T) → R (some (vi (nI (live (rmM K i) T).length))) g') : WM lim d j_It_remove [vr (some c), vi x] g R X := by
  refine B_It_remove_0 ⟨O.1.1, all1.mpr O.1.1, by omega, C_liveN O (by omega) (fun i hi e => onO_v ?_) q0⟩
  rw [O.1.2, onR_s]
  exact ⟨all1.mpr O.2.1.kt, by omega, C_gone O hd hi (q1 i hi e) (q2 i hi e)⟩
/-- weights of P changed -/
def wP (K : MT) (x y w : Int32) (P : List Nat) : MT := fun r i => if r = 3 ∧ i ∈ P ∧ x.toInt ≤ (K 1 i).toInt ∧ (K 1 i).toInt ≤ y.toInt then K r i + w else K r i
theorem wP_ne {P : List Nat} {r i : Nat} (h : r ≠ 3 ∨ i ∉ P) : wP K x y w P r i = K r i := by unfold wP; rw [if_neg (fun c => h.elim (fun q => q c.1) (fun q => q c.2.1))]
theorem wP_skip {P : List Nat} {i : Nat} (h : ¬ (x.toInt ≤ (K 1 i).toInt ∧ (K 1 i).toInt ≤ y.toInt)) : wP K x y w (P ++ [i]) = wP K x y w P := by
  funext r j; unfold wP
  by_cases c : j = i
  · subst c; rw [if_neg (fun q => h q.2.2), if_neg (fun q => h q.2.2)]
  · by_cases q : r = 3 ∧ j ∈ P ∧ x.toInt ≤ (K 1 j).toInt ∧ (K 1 j).toInt ≤ y.toInt
    · rw [if_pos q, if_pos ⟨q.1, List.mem_append_left _ q.2.1, q.2.2⟩]
    · rw [if_neg q, if_neg (fun k => q ⟨k.1, (List.mem_append.mp k.2.1).resolve_right (fun z => c (List.mem_singleton.mp z)), k.2.2⟩)]
theorem wP_take {P : List Nat} {i : Nat} (hi : i ∉ P) (h : x.toInt ≤ (K 1 i).toInt ∧ (K 1 i).toInt ≤ y.toInt) : up2 (wP K x y w P) 3 i (K 3 i + w) = wP K x y w (P ++ [i]) := by
  funext r j
  by_cases c : r = 3 ∧ j = i
  · rw [c.1, c.2, up2_at]; unfold wP; rw [if_pos ⟨rfl, by simp, h⟩]
  · rw [up2_ne c]; unfold wP
    by_cases q : r = 3 ∧ j ∈ P ∧ x.toInt ≤ (K 1 j).toInt ∧ (K 1 j).toInt ≤ y.toInt
    · rw [if_pos q, if_pos ⟨q.1, List.mem_append_left _ q.2.1, q.2.2⟩]
    · rw [if_neg q, if_neg (fun k => q ⟨k.1, (List.mem_append.mp k.2.1).resolve_right (fun z => c ⟨k.1, List.mem_singleton.mp z⟩), k.2.2⟩)]
theorem C_aw41 {g0 : AHp} (I : TI K T N W) (C : CH K (ino T)) (q : ∀ g' acc, CV g0 g' t b na (fun i => i ∈ ino T) (wP K x y w (ino T)) → acc = isum (fun a => if K 4 a = 0 ∧ x.toInt ≤ (K 1 a).toInt ∧ (K 1 a).toInt ≤ y.toInt then 1 else 0) (ino T) → R (some (vi acc)) g') : ∀ (S P : List Nat) (g : AHp), ino T = P ++ S → CV g0 g t b na (fun i => i ∈ ino T) (wP K x y w P) →
    WP lim d j_It_addWeight 41 [some (vr (some c)), some (vi x), some (vi y), some (vi w), some (vi (isum (fun a => if K 4 a = 0 ∧ x.toInt ≤ (K 1 a).toInt ∧ (K 1 a).toInt ≤ y.toInt then 1 else 0) P)), some (vr (oa na (hdI S)))] [] g R X := by
  intro S
  induction S with
  | nil =>
    intro P g h V
    rw [List.append_nil] at h
    refine B_It_addWeight_41 ?_
    rw [show hdI [] = (-1 : Int32) from rfl, oa_n, ifN_n]
    have hP : wP K x y w (ino T) = wP K x y w P := by rw [h]
    exact ⟨rfl, q g _ (by rw [hP]; exact V) (by rw [h])⟩
  | cons i S ih =>
    intro P g h V
    have hi : i ∈ ino T := by rw [h]; simp
    have hnd := I.nodup
    rw [h, List.nodup_append] at hnd
    have hiP : i ∉ P := fun z => hnd.2.2 i z i List.mem_cons_self rfl
    have e41 : wP K x y w P 41 i = hdI S := by rw [wP_ne (Or.inl (by decide))]; exact (CH.at (h ▸ C : CH K (P ++ i :: S))).2
    have e1 : wP K x y w P 1 i = K 1 i := wP_ne (Or.inl (by decide))
    have hs : isum (fun a => if K 4 a = 0 ∧ x.toInt ≤ (K 1 a).toInt ∧ (K 1 a).toInt ≤ y.toInt then (1 : Int32) else 0) (P ++ [i]) = isum (fun a => if K 4 a = 0 ∧ x.toInt ≤ (K 1 a).toInt ∧ (K 1 a).toInt ≤ y.toInt then 1 else 0) P + (if K 4 i = 0 ∧ x.toInt ≤ (K 1 i).toInt ∧ (K 1 i).toInt ≤ y.toInt then 1 else 0) := by
      rw [isum_app]; congr 1; exact i32_zero _
    refine B_It_addWeight_41 ?_
    have e3 : wP K x y w P 3 i = K 3 i := wP_ne (Or.inr hiP)
    rw [show hdI (i :: S) = nI i from rfl, oa_s (V.lt hi)]
    simp only [ifN_s, onR_s, V.lo hi, e1, (V.af hi).1, e41, V.we hi, e3]
    refine ⟨V.kn hi, ?_⟩
    have skip : ¬ (x.toInt ≤ (K 1 i).toInt ∧ (K 1 i).toInt ≤ y.toInt) → WP lim d j_It_addWeight 41 [some (vr (some c)), some (vi x), some (vi y), some (vi w), some (vi (isum (fun a => if K 4 a = 0 ∧ x.toInt ≤ (K 1 a).toInt ∧ (K 1 a).toInt ≤ y.toInt then 1 else 0) P)), some (vr (oa na (hdI S)))] [] g R X := fun hc => by
      have := ih (P ++ [i]) g (by rw [h]; simp) (by rw [wP_skip hc]; exact V)
      rw [hs, if_neg (fun q => hc q.2), i32_zero] at this
      exact this
    split
    · rename_i c1; rw [i_lt] at c1
      exact ⟨V.kn hi, skip (by omega)⟩
    · rename_i c1; rw [i_lt] at c1
      refine ⟨V.kn hi, ?_⟩
      split
      · rename_i c2; rw [i_lt] at c2
        exact ⟨V.kn hi, skip (by omega)⟩
      · rename_i c2; rw [i_lt] at c2
        have V1 : CV g0 (sI g (na i) 3 (K 3 i + w)) t b na (fun i => i ∈ ino T) (up2 (wP K x y w P) 3 i (K 3 i + w)) := V.wnI (k := 3) hi (by decide) _
        rw [wP_take hiP ⟨by omega, by omega⟩] at V1
        have e41' : wP K x y w (P ++ [i]) 41 i = hdI S := by rw [wP_ne (Or.inl (by decide))]; exact (CH.at (h ▸ C : CH K (P ++ i :: S))).2
        have e4' : wP K x y w (P ++ [i]) 4 i = K 4 i := wP_ne (Or.inl (by decide))
        have nx := ih (P ++ [i]) _ (by rw [h]; simp) V1
        rw [hs] at nx
        refine ⟨V.kn hi, V.kn hi, V1.kn hi, ?_⟩
        rw [V1.st hi, e4', (V1.af hi).1, e41']
        split
        · rename_i c4
          rw [if_pos ⟨c4, by omega, by omega⟩] at nx
          exact ⟨V1.kn hi, nx⟩
        · rename_i c4
          rw [if_neg (fun q => c4 q.1)] at nx
          exact ⟨V1.kn hi, nx⟩
theorem TI_wadd (I : TI K T N W) (hw : -1000 ≤ w.toInt ∧ w.toInt ≤ 1000) (hW0 : 0 ≤ W) (hW : W + 1000 < 2147483647) : TI (wAdd K x y w N) T N (W + 1000) := by
  obtain ⟨i1, i2, i3, i4, i5, i6, i7, i8, i9, i10, i11, i12, i13⟩ := I
  have o : ∀ r i, r ≠ 3 → wAdd K x y w N r i = K r i := fun r i h => wAdd_ne h
  refine ⟨(o 0 10 (by omega)).trans i1, i2, FinT_congr (fun r i a b => o r i (by omega)) (o 0 9 (by omega)) i3, i4.imp (fun {a b} q => (less_cong (fun i => ⟨o 1 i (by omega), o 2 i (by omega)⟩)).mpr q), fun z => ?_, fun z hz => ?_, fun z hz => ?_, fun z hz => ?_, (o 0 11 (by omega)).trans i9, i10, ?_, ?_, fun i => ?_⟩
  · rw [o 4 z (by omega)]; exact i5 z
  · rw [o 4 z (by omega)]; exact i6 z hz
  · rw [o 1 z (by omega), o 2 z (by omega)]; exact i7 z hz
  · have := i8 z hz
    unfold wAdd
    split
    · rw [i_add (by omega) (by omega)]; omega
    · omega
  · rw [o 0 12 (by omega), i11]; unfold gone; rw [filt_congr (fun x _ => o 4 x (by omega))]
  · rw [o 0 13 (by omega)]; exact i12
  · rw [o 8 i (by omega)]; exact i13 i
theorem C_addWeight (O : RO g c t b na K T N W) (hd : 1 < d) (hW0 : 0 ≤ W) (hW : W + 1000 < 2147483647) (q1 : x.toInt ≤ y.toInt → -1000 ≤ w.toInt → w.toInt ≤ 1000 → ∀ g', RO g' c t b na (wAdd K x y w N) T N (W + 1000) → Fr g g' (own t na (fun i => i ∈ ino T)) → R (some (vi (isum (fun a => if K 4 a = 0 ∧ x.toInt ≤ (K 1 a).toInt ∧ (K 1 a).toInt ≤ y.toInt then 1 else 0) (List.range' 0 N)))) g') (q2 : ¬ (x.toInt ≤ y.toInt ∧ -1000 ≤ w.toInt ∧ w.toInt ≤ 1000) → thr lim X 1 g) : WM lim d j_It_addWeight [vr (some c), vi x, vi y, vi w] g R X := by
  refine B_It_addWeight_0 ⟨by omega, C_range (fun h => ?_) (fun h => q2 (by omega))⟩
  split
  · rename_i c1; rw [i_lt, show (-1000 : Int32).toInt = -1000 from rfl] at c1; exact ⟨rfl, q2 (by omega)⟩
  · rename_i c1; rw [i_lt, show (-1000 : Int32).toInt = -1000 from rfl] at c1
    split
    · rename_i c2; rw [i_lt, show (1000 : Int32).toInt = 1000 from rfl] at c2; exact ⟨rfl, q2 (by omega)⟩
    · rename_i c2; rw [i_lt, show (1000 : Int32).toInt = 1000 from rfl] at c2
      refine ⟨O.1.1, ?_⟩
      rw [O.1.2, onR_s, O.2.1.fi.1, O.2.2.2.1.1]
      have e0 : wP K x y w [] = K := by funext r i; exact wP_ne (Or.inr (by intro z; cases z))
      refine ⟨O.2.1.kt, C_aw41 (g0 := g) O.2.2.1 O.2.2.2.1 (fun g' acc V' ha => ?_) (ino T) [] g rfl (by rw [e0]; exact O.2.1)⟩
      have hlv : live (wAdd K x y w N) T = live K T := filt_congr (fun z _ => wAdd_ne (by decide))
      have V2 : CV g g' t b na (fun i => i ∈ ino T) (wAdd K x y w N) := by
        refine V'.congr (fun r i hi hr => ?_) (fun i _ => ?_) (fun i _ => ?_)
        · have hm := (O.2.2.1.2.2.2.2.1 i).mp hi
          unfold wAdd wP
          by_cases q : r = 3 ∧ i ∈ ino T ∧ x.toInt ≤ (K 1 i).toInt ∧ (K 1 i).toInt ≤ y.toInt
          · rw [if_pos q, if_pos ⟨q.1, hm.1, hm.2, q.2.2⟩]
          · rw [if_neg q, if_neg (fun k => q ⟨k.1, hi, k.2.2.2⟩)]
        · rw [wAdd_ne (by decide), wP_ne (Or.inl (by decide))]
        · rw [wAdd_ne (by decide), wP_ne (Or.inl (by decide))]
      have O' := O.upd V2 (TI_wadd O.2.2.1 ⟨by omega, by omega⟩ hW0 hW) (O.2.2.2.1.congr (fun i _ => ⟨wAdd_ne (by decide), wAdd_ne (by decide)⟩) (wAdd_ne (by decide)) (wAdd_ne (by decide))) (by rw [wAdd_ne (by decide), hlv]; exact O.2.2.2.2.2)
      have := q1 (by omega) (by omega) (by omega) g' O' V2.2.2.2.2.2
      rw [ha]
      rw [isum_live O.2.2.1 (fun a h => if_neg (fun z => h z.1))] at this
      unfold live at this
      rw [isum_filter (fun z _ hz => if_neg (fun k => absurd (decide_eq_true k.1) (by rw [hz]; decide)))] at this
      exact this
end REMC
