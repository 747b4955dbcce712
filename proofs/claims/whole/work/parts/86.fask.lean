/-! ===== filters, asked ===== -/
section FASK0
variable {M M' : MT} {l : List Nat} {i f : Nat} {FL : Nat → List SP} {T : Tr}
theorem fval_congr (h : ∀ r k, 1 ≤ r → r ≤ 3 → M' r k = M r k) : fval M' = fval M := by
  funext i p
  unfold fval
  rw [h 1 i (by decide) (by decide), h 2 i (by decide) (by decide), h 3 i (by decide) (by decide)]
theorem pfm_congr (h : ∀ r k, 1 ≤ r → r ≤ 3 → M' r k = M r k) : pfm M' = pfm M := by
  funext l i A s st
  have e1 : inr M' i s = inr M i s := by unfold inr; rw [fval_congr h]
  have e2 : ovA M' l i = ovA M l i := by
    unfold ovA
    congr 1
    funext o
    rw [h 1 o (by decide) (by decide), h 2 o (by decide) (by decide), h 1 i (by decide) (by decide), h 2 i (by decide) (by decide)]
  unfold pfm
  rw [e1, e2]
theorem ev_congrM (h : ∀ r k, 1 ≤ r → r ≤ 3 → M' r k = M r k) : ev M' = ev M := by
  funext l i A L st
  unfold ev
  rw [pfm_congr h]
theorem ans_congr (h : ∀ r k, 1 ≤ r → r ≤ 3 → M' r k = M r k) : ∀ n, ans M' l i FL n = ans M l i FL n := by
  intro n
  induction n with
  | zero => rfl
  | succ n ih =>
    funext k
    show (if k = n then _ else _) = (if k = n then _ else _)
    rw [ih, ev_congrM h]
theorem tk_congr (h : ∀ r k, 1 ≤ r → r ≤ 3 → M' r k = M r k) : tk M' l i FL f = tk M l i FL f := by
  unfold tk
  rw [ev_congrM h, ans_congr h]
theorem tk_thn {k : Int32} : tk (thn M k) l i FL f = tk M l i FL f := tk_congr (fun r k h1 h2 => thn_ne (by omega))
theorem live_E (h : ∀ k, M' 4 k = M 4 k) : live M' T = live M T := filt_congr (fun x _ => h x)
/-- the reference's filters -/
def RFs (M : MT) (FL : Nat → List SP) (nf : Nat) : Prop := nf ≤ 8 ∧ M 0 24 = nI nf ∧ ∀ f, f < nf → wf f (FL f) 0 ∧ RF M FL f
theorem RFs_thn {k : Int32} {nf : Nat} (h : RFs M FL nf) : RFs (thn M k) FL nf :=
  ⟨h.1, (show thn M k 0 24 = _ from up2_ne (by omega)).trans h.2.1, fun f hf => ⟨(h.2.2 f hf).1, (h.2.2 f hf).2.congr (fun a k h1 h2 => thn_ne (by omega))⟩⟩
end FASK0
section FASK
variable {z : Nat × Nat} {d : Nat} {M : MT} {Q : Option AV → MT → Prop} {T : Tr} {N : Nat} {W : Int} {x y : Int32} {FL : Nat → List SP} {nf : Nat}
theorem S_isFilter (h24 : M 0 24 = nI nf) (h8 : nf ≤ 8) (hd : 0 < d) (q1 : ix x nf → Q (some (vi 1)) M) (q2 : ¬ ix x nf → Q (some (vi 0)) M) : WQ z d j_Mo_isFilter [vr (some 0), vi x] M Q := by
  refine M_isFilter_0 ⟨hd, ?_⟩
  rw [h24]
  have e : (nI nf - 1).toInt = (nf : Int) - 1 := by rw [i_sub (by rw [nI_toInt (by omega), i_1]; omega) (by rw [nI_toInt (by omega), i_1]; omega), nI_toInt (by omega), i_1]
  refine S_in (fun c => onI_v ⟨Or.inr rfl, q1 ?_⟩) (fun c => onI_v ⟨Or.inl rfl, q2 (fun h => c ?_)⟩)
  · rw [e, i_0] at c; exact ix_iff.mpr (by omega)
  · rw [ix_iff] at h; rw [e, i_0]; omega
theorem S_isCursor (hd : 0 < d) (q1 : ix x 4 → Q (some (vi 1)) M) (q2 : ¬ ix x 4 → Q (some (vi 0)) M) : WQ z d j_Mo_isCursor [vi x] M Q := by
  refine M_isCursor_0 ⟨hd, ?_⟩
  have e : (3 : Int32).toInt = 3 := rfl
  refine S_in (fun c => onI_v ⟨Or.inr rfl, q1 ?_⟩) (fun c => onI_v ⟨Or.inl rfl, q2 (fun h => c ?_)⟩)
  · rw [e, i_0] at c; exact ix_iff.mpr (by omega)
  · rw [ix_iff] at h; rw [e, i_0]; omega
theorem fails_b {k : Int32} (hd : 0 < d) (q : Q (some (vi 0)) (thn M k)) : 0 < d ∧ WQ z (d - 1) j_Mo_fails [vr (some 0), vi k] (thn M 0) (fun v23 M22 => onI v23 fun x25 => if (0 : Int32) < x25 then (Q (some (vi (1 : Int32))) M22) else (Q (some (vi (0 : Int32))) M22)) :=
  S_fails' (f := fun x25 M22 => if (0 : Int32) < x25 then (Q (some (vi (1 : Int32))) M22) else (Q (some (vi (0 : Int32))) M22)) hd (by rw [if_neg (by decide)]; exact q)
theorem L_mc (I : TI M T N W) (hF : RFs M FL nf) {f : Nat} (hf : f < nf) (hd : 19 < d) : ∀ (n k : Nat) (acc : Int32) (M1 : MT), k + n = N → E22 M M1 → (∀ M2, E22 M M2 → Q (some (vi (acc + isum (fun a => if M 4 a = 0 ∧ tk M (live M T) a FL f = true then 1 else 0) (List.range' k n)))) M2) → WK z d j_Mo_matchCount 23 [some (vr (some 0)), some (vi (nI f)), some (vi acc), some (vi (nI k))] [] M1 Q := by
  have hN := I.2.1
  have h8 := hF.1
  intro n
  induction n with
  | zero =>
    intro k acc M1 hk E q
    refine M_matchCount_23 ?_
    rw [E 0 10 (by decide), I.1, if_neg (nI_nlt (by omega) (by omega))]
    have q := q M1 E
    rw [show isum _ (List.range' k 0) = (0 : Int32) from rfl, i32_zero] at q; exact q
  | succ n ih =>
    intro k acc M1 hk E q
    have e : acc + isum (fun a => if M 4 a = 0 ∧ tk M (live M T) a FL f = true then (1 : Int32) else 0) (List.range' k (n + 1)) = acc + (if M 4 k = 0 ∧ tk M (live M T) k FL f = true then (1 : Int32) else 0) + isum (fun a => if M 4 a = 0 ∧ tk M (live M T) a FL f = true then (1 : Int32) else 0) (List.range' (k + 1) n) := by
      rw [List.range'_succ]; exact (i32_assoc _ _ _).symm
    rw [e] at q
    refine M_matchCount_23 ?_
    rw [E 0 10 (by decide), I.1, if_pos (nI_lt (by omega) (by omega)), nI_clamp (by omega), nI_1, E 4 _ (by decide)]
    refine ⟨ix_nI (by omega) (by decide), ?_⟩
    split
    · rename_i c
      refine ⟨by omega, S_takes I h8 (fun f hf => hF.2.2 f hf) (by omega) f (d - 1) M1 _ hf (by omega) E (fun M3 E3 _ => ?_)⟩
      cases ht : tk M (live M T) k FL f with
      | false =>
        rw [if_neg (fun w => by rw [ht] at w; cases w.2)] at q
        exact onI_0 (ih _ _ _ (by omega) E3 q)
      | true =>
        rw [if_pos ⟨c, ht⟩] at q
        exact onI_1 (ih _ _ _ (by omega) E3 q)
    · rename_i c
      rw [if_neg (fun w => c w.1)] at q
      exact ih _ _ _ (by omega) E q
theorem S_matchCount (I : TI M T N W) (hF : RFs M FL nf) (hd : 20 < d) (q1 : ¬ ix x nf → Q (some (vi 0)) (thn M 1)) (q2 : ∀ f, f < nf → x = nI f → ∀ M2, E22 (thn M 0) M2 → Q (some (vi (isum (fun a => bi (tk M (live M T) a FL f)) (live M T)))) M2) : WQ z d j_Mo_matchCount [vr (some 0), vi x] M Q := by
  have h8 := hF.1
  have F0 := RFs_thn (k := 0) hF
  refine M_matchCount_0 ⟨by omega, S_isFilter F0.2.1 F0.1 (by omega) (fun h => onI_1 ?_) (fun h => onI_0 (S_fails' (by omega) (q1 h)))⟩
  obtain ⟨f, hf, rfl⟩ := ix_ex h (by omega)
  have I0 : TI (thn M 0) T N W := TI_thn I
  have := L_mc (z := z) (d := d) (Q := Q) I0 F0 hf (by omega) N 0 0 (thn M 0) (by omega) E22.refl (fun M2 E2 => by
    rw [isum_live I0 (fun a h => if_neg (fun w => h w.1)), live_thn, i32_comm, i32_zero]
    rw [isum_congr (f' := fun a => bi (tk M (live M T) a FL f)) (fun a ha => ?_)]
    · exact q2 f hf rfl M2 E2
    · have h4 : thn M 0 4 a = 0 := by rw [thn_ne (by decide)]; exact (lvT ha).2
      rw [tk_thn]
      cases e : tk M (live M T) a FL f with
      | false => rw [if_neg (fun w => by cases w.2)]; rfl
      | true => rw [if_pos ⟨h4, rfl⟩]; rfl)
  exact this
theorem S_accepts (I : TI M T N W) (hF : RFs M FL nf) (hd : 20 < d) (q1 : ¬ ix x nf → Q (some (vi 0)) (thn M 1)) (q2 : ix x nf → ¬ (ix y N ∧ M 4 y.toNatClampNeg < 2) → Q (some (vi 0)) (thn M 2)) (q3 : ∀ f i, f < nf → x = nI f → i ∈ ino T → y = nI i → ∀ M2, E22 (thn M 0) M2 → Q (some (vi (bi (tk M (live M T) i FL f)))) M2) : WQ z d j_Mo_accepts [vr (some 0), vi x, vi y] M Q := by
  have h8 := hF.1
  have hN := I.2.1
  have F0 := RFs_thn (k := 0) hF
  have I0 : TI (thn M 0) T N W := TI_thn I
  refine M_accepts_0 ⟨by omega, S_isFilter F0.2.1 F0.1 (by omega) (fun h => onI_1 ⟨by omega, S_isInTree I0.1 hN (by omega) (fun h1 h2 => onI_1 ⟨by omega, ?_⟩) (fun h2 => onI_0 (fails_b (by omega) (q2 h ?_)))⟩) (fun h => onI_0 (fails_b (by omega) (q1 h)))⟩
  · obtain ⟨f, hf, rfl⟩ := ix_ex h (by omega)
    obtain ⟨i, hi, rfl⟩ := ix_ex h1 (by omega)
    rw [nI_clamp (by omega), up2_ne (by omega)] at h2
    refine S_takes I0 h8 (fun f hf => F0.2.2 f hf) (by omega) f (d - 1) (thn M 0) _ hf (by omega) E22.refl (fun M3 E3 _ => onI_v ⟨bi_b01, ?_⟩)
    rw [live_thn, tk_thn]
    exact q3 f i hf rfl ((I.2.2.2.2.1 i).mpr ⟨hi, fun e => by rw [e] at h2; exact absurd h2 (by decide)⟩) rfl M3 E3
  · rw [up2_ne (by omega)] at h2; exact h2
end FASK
section FASKC
variable {g : AHp} {c t b F : Nat} {na : Nat → Nat} {K : MT} {T : Tr} {N : Nat} {W : Int} {lim : Nat × Nat} {d : Nat} {R : RT} {X : XT} {x y : Int32} {FL : Nat → List SP} {NB : Nat → Int32} {fa : Nat → Nat} {nf : Nat}
theorem C_chkF (hc : hk g c = 6) (h2 : hI g c 2 = nI nf) (h8 : nf ≤ 8) (q1 : ix x nf → R none g) (q2 : ¬ ix x nf → thr lim X 1 g) : WM lim d j_It_checkFilter [vr (some c), vi x] g R X := by
  refine B_It_checkFilter_0 ?_
  rw [h2]
  split
  · rename_i e; rw [i_lt, i_0] at e; exact ⟨rfl, q2 (fun z => by rw [ix_iff] at z; omega)⟩
  · rename_i e; rw [i_lt, i_0] at e
    refine ⟨hc, ?_⟩
    split
    · rename_i e2; rw [i_lt, nI_toInt (by omega)] at e2; exact ⟨rfl, q1 (ix_iff.mpr (by omega))⟩
    · rename_i e2; rw [i_lt, nI_toInt (by omega)] at e2; exact ⟨rfl, q2 (fun z => by rw [ix_iff] at z; omega)⟩
theorem C_mc15 (O : RO g c t b na K T N W) (hd : 5 < d) (Y : FA g c F FL NB fa nf) {f : Nat} (hf : f < nf) : ∀ (S P : List Nat) (acc : Int32), live K T = P ++ S → R (some (vi (acc + isum (fun a => bi (tk K (live K T) a FL f)) S))) g → WP lim d j_It_matchCount 15 [some (vr (some c)), some (vi (nI f)), some (vi acc), some (vr (oa na (hdI S)))] [] g R X := by
  intro S
  induction S with
  | nil => intro P acc _ q; exact B_It_matchCount_15 (by rw [show hdI [] = (-1 : Int32) from rfl, oa_n]; exact ⟨rfl, by rw [show isum _ [] = (0 : Int32) from rfl, i32_zero] at q; exact q⟩)
  | cons i S ih =>
    intro P acc h q
    have hi := O.at h
    rw [show isum (fun a => bi (tk K (live K T) a FL f)) (i :: S) = bi (tk K (live K T) i FL f) + isum (fun a => bi (tk K (live K T) a FL f)) S from rfl, ← i32_assoc] at q
    refine B_It_matchCount_15 ?_
    rw [show hdI (i :: S) = nI i from rfl, oa_s (O.2.1.lt hi), ifN_s]
    refine ⟨all1.mpr O.1.1, by omega, C_matches O (by omega) Y hi hf ?_⟩
    cases et : tk K (live K T) i FL f with
    | false =>
      rw [et] at q
      refine onI_0 ?_
      rw [onR_s]
      exact O.next h (by omega) (onO_v (ih (P ++ [i]) _ (by rw [h]; simp) q))
    | true =>
      rw [et] at q
      refine onI_1 ?_
      rw [onR_s]
      exact O.next h (by omega) (onO_v (ih (P ++ [i]) _ (by rw [h]; simp) q))
theorem C_matchCount (O : RO g c t b na K T N W) (hd : 5 < d) (Y : FA g c F FL NB fa nf) (q1 : ¬ ix x nf → thr lim X 1 g) (q2 : ∀ f, f < nf → x = nI f → R (some (vi (isum (fun a => bi (tk K (live K T) a FL f)) (live K T)))) g) : WM lim d j_It_matchCount [vr (some c), vi x] g R X := by
  have h8 := Y.1
  refine B_It_matchCount_0 ⟨all1.mpr O.1.1, by omega, C_chkF O.1.1 Y.2.1 Y.1 (fun h => ?_) q1⟩
  obtain ⟨f, hf, rfl⟩ := ix_ex h (by omega)
  exact O.first (by omega) (onO_v (C_mc15 O hd Y hf (live K T) [] 0 rfl (by rw [i32_comm, i32_zero]; exact q2 f hf rfl)))
theorem C_accepts (O : RO g c t b na K T N W) (hd : 5 < d) (Y : FA g c F FL NB fa nf) (q1 : ¬ ix x nf → thr lim X 1 g) (q2 : ix x nf → ¬ (ix y N ∧ K 4 y.toNatClampNeg < 2) → thr lim X 3 g) (q3 : ∀ f i, f < nf → x = nI f → i ∈ ino T → y = nI i → R (some (vi (bi (tk K (live K T) i FL f)))) g) : WM lim d j_It_accepts [vr (some c), vi x, vi y] g R X := by
  have h8 := Y.1
  refine B_It_accepts_0 ⟨all1.mpr O.1.1, by omega, C_chkF O.1.1 Y.2.1 Y.1 (fun h => ⟨all1.mpr O.1.1, by omega, C_present O (by omega) (fun i hi e => onO_v ?_) (q2 h)⟩) q1⟩
  obtain ⟨f, hf, rfl⟩ := ix_ex h (by omega)
  exact ⟨all1.mpr O.1.1, by omega, C_matches O (by omega) Y hi hf (onI_v ⟨rfl, bi_b01, q3 f i hf rfl hi e⟩)⟩
end FASKC
