/-! ===== the reference's changes ===== -/
def rmM (M : MT) (i : Nat) : MT := up2 (up2 M 4 i 1) 0 12 (M 0 12 + 1)
section CHG
variable {M : MT} {T : Tr} {N : Nat} {W : Int} {z : Nat × Nat} {d : Nat} {Q : Option AV → MT → Prop} {x : Int32}
theorem TI.short (I : TI M T N W) : ∀ l, LiveRow M N l → l.length ≤ 100 := fun l h => by
  have := I.len; have h10 := I.2.2.2.2.2.2.2.2.2.1; rw [I.row h]; omega
theorem S_reb (I : TI M T N W) (hd : 10 < d) (q : ∀ M', RebP M M' N (live M T) → TI M' (bt 7 (live M T)) N W → Q none M') : WQ z d j_Mo_rebuilds [vr (some 0)] M Q :=
  S_rebuilds I.1 I.2.1 hd I.short (fun M' ll h P => q M' (I.row h ▸ P) (TI_reb I (I.row h ▸ P)))
theorem S_rebuild (I : TI M T N W) (hd : 11 < d) (q : ∀ M', RebP M M' N (live M T) → TI M' (bt 7 (live M T)) N W → Q (some (vi (nI (gone M T).length))) M') : WQ z d j_Mo_rebuild [vr (some 0)] M Q := by
  refine M_rebuild_0 ⟨by omega, S_reb I (by omega) (fun M' P I' => ?_)⟩
  rw [I.2.2.2.2.2.2.2.2.2.2.1]; exact q M' P I'
theorem S_insert (I : TI M T N W) (hd : 15 < d) {l h w : Int32}
    (q1 : ¬ (-1000 ≤ l.toInt ∧ l.toInt ≤ h.toInt ∧ h.toInt ≤ 1000 ∧ 0 ≤ w.toInt ∧ w.toInt ≤ 999) → Q (some (vi 0)) (thn M 1))
    (q2 : (-1000 ≤ l.toInt ∧ l.toInt ≤ h.toInt ∧ h.toInt ≤ 1000 ∧ 0 ≤ w.toInt ∧ w.toInt ≤ 999) → ((ino T).length = 100 ∧ (gone M T).length = 0) ∨ N = 500 → Q (some (vi 0)) (thn M 2))
    (q3 : (-1000 ≤ l.toInt ∧ l.toInt ≤ h.toInt ∧ h.toInt ≤ 1000 ∧ 0 ≤ w.toInt ∧ w.toInt ≤ 999) → (ino T).length = 100 → ¬ (gone M T).length = 0 → N < 500 → ∀ M', RebP (thn M 0) M' N (live M T) → TI M' (bt 7 (live M T)) N W → Q (some (vi (nI N))) (insM M' (bt 7 (live M T)) N l h w))
    (q4 : (-1000 ≤ l.toInt ∧ l.toInt ≤ h.toInt ∧ h.toInt ≤ 1000 ∧ 0 ≤ w.toInt ∧ w.toInt ≤ 999) → (ino T).length < 100 → N < 500 → Q (some (vi (nI N))) (insM (thn M 0) T N l h w)) : WQ z d j_Mo_insert [vr (some 0), vi l, vi h, vi w] M Q := by
  have m1 : (-1000 : Int32).toInt = -1000 := rfl
  have m2 : (1000 : Int32).toInt = 1000 := rfl
  have m3 : (999 : Int32).toInt = 999 := rfl
  have m0 : (0 : Int32).toInt = 0 := rfl
  have I0 : TI (thn M 0) T N W := TI_thn I
  have h11 : up2 M 0 0 (0 : Int32) 0 11 = nI (ino T).length := I0.2.2.2.2.2.2.2.2.1
  have h12 : up2 M 0 0 (0 : Int32) 0 12 = nI (gone M T).length := by rw [up2_ne (by omega)]; exact I.2.2.2.2.2.2.2.2.2.2.1
  have h10 : up2 M 0 0 (0 : Int32) 0 10 = nI N := I0.1
  have hlen := I.2.2.2.2.2.2.2.2.2.1
  have hgl := I.len
  have hN := I.2.1
  have e100 : ∀ k : Nat, k ≤ 500 → (nI k = (100 : Int32) ↔ k = 100) := fun k hk => by
    rw [show (100 : Int32) = nI 100 from rfl, i_eq, nI_toInt (by omega), nI_toInt (by omega)]; omega
  have e500 : ∀ k : Nat, k ≤ 500 → (nI k = (500 : Int32) ↔ k = 500) := fun k hk => by
    rw [show (500 : Int32) = nI 500 from rfl, i_eq, nI_toInt (by omega), nI_toInt (by omega)]; omega
  have e0 : ∀ k : Nat, k ≤ 500 → (nI k = (0 : Int32) ↔ k = 0) := fun k hk => by
    rw [← nI_0, i_eq, nI_toInt (by omega), nI_toInt (by omega)]; omega
  refine M_insert_0 ⟨by omega, S_in (fun c1 => onI_1 ⟨by omega, S_in (fun c2 => onI_1 ⟨by omega, S_in (fun c3 => onI_1 ?_) (fun c => onI_0 (S_fails' (by omega) (q1 fun k => c ?_)))⟩) (fun c => onI_0 (S_fails' (by omega) (q1 fun k => c ?_)))⟩) (fun c => onI_0 (S_fails' (by omega) (q1 fun k => c ?_)))⟩
  · rw [m1, m2] at c1; rw [m2] at c2; rw [m0, m3] at c3
    have hr : (-1000 ≤ l.toInt ∧ l.toInt ≤ h.toInt ∧ h.toInt ≤ 1000 ∧ 0 ≤ w.toInt ∧ w.toInt ≤ 999) := ⟨c1.1, c2.1, c2.2, c3.1, c3.2⟩
    rw [h11, h12, h10]
    by_cases k1 : (ino T).length = 100
    · rw [if_pos ((e100 _ (by omega)).mpr k1)]
      by_cases k2 : (gone M T).length = 0
      · rw [if_pos ((e0 _ (by omega)).mpr k2)]
        exact S_fails' (by omega) (q2 hr (Or.inl ⟨k1, k2⟩))
      · rw [if_neg (fun c => k2 ((e0 _ (by omega)).mp c))]
        by_cases k3 : N = 500
        · rw [if_pos ((e500 _ (by omega)).mpr k3)]
          exact S_fails' (by omega) (q2 hr (Or.inr k3))
        · rw [if_neg (fun c => k3 ((e500 _ (by omega)).mp c)), if_pos ((e100 _ (by omega)).mpr k1)]
          refine ⟨by omega, S_reb I0 (by omega) (fun M' P I' => ?_)⟩
          rw [live_thn] at P I'
          exact S_ins91 I' (by omega) (by omega) (q3 hr k1 k2 (by omega) M' P I')
    · rw [if_neg (fun c => k1 ((e100 _ (by omega)).mp c))]
      by_cases k3 : N = 500
      · rw [if_pos ((e500 _ (by omega)).mpr k3)]
        exact S_fails' (by omega) (q2 hr (Or.inr k3))
      · rw [if_neg (fun c => k3 ((e500 _ (by omega)).mp c)), if_neg (fun c => k1 ((e100 _ (by omega)).mp c))]
        exact S_ins91 I0 (by omega) (by omega) (q4 hr (by omega) (by omega))
  · rw [m0, m3]; omega
  · rw [m2]; omega
  · rw [m1, m2]; omega
theorem TI_rm (I : TI M T N W) {i : Nat} (hi : i ∈ live M T) : TI (rmM M i) T N W := by
  have hm := (I.mem_live i).mp hi
  have hnd := I.nodup
  obtain ⟨i1, i2, i3, i4, i5, i6, i7, i8, i9, i10, i11, i12, i13⟩ := I
  have o : ∀ r j, r ≠ 4 → ¬ (r = 0 ∧ j = 12) → rmM M i r j = M r j := fun r j a b => by unfold rmM; rw [up2_ne b, up2_ne (by omega)]
  have o4 : ∀ j, j ≠ i → rmM M i 4 j = M 4 j := fun j a => by unfold rmM; rw [up2_ne (by omega), up2_ne (by omega)]
  have oi : rmM M i 4 i = 1 := by unfold rmM; rw [up2_ne (by omega), up2_at]
  refine ⟨(o 0 10 (by omega) (by omega)).trans i1, i2, FinT_congr (fun r j a b => o r j (by omega) (by omega)) (o 0 9 (by omega) (by omega)) i3, i4.imp (fun {a b} q => (less_cong (fun j => ⟨o 1 j (by omega) (by omega), o 2 j (by omega) (by omega)⟩)).mpr q), fun x => ?_, fun x hx => ?_, fun x hx => ?_, fun x hx => ?_, (o 0 11 (by omega) (by omega)).trans i9, i10, ?_, ?_, fun j => ?_⟩
  · by_cases c : x = i
    · subst c; rw [oi, i5, hm.2]; exact ⟨fun q => ⟨q.1, by decide⟩, fun q => ⟨q.1, by decide⟩⟩
    · rw [o4 x c]; exact i5 x
  · by_cases c : x = i
    · subst c; rw [oi]; exact Or.inr (Or.inl rfl)
    · rw [o4 x c]; exact i6 x hx
  · rw [o 1 x (by omega) (by omega), o 2 x (by omega) (by omega)]; exact i7 x hx
  · rw [o 3 x (by omega) (by omega)]; exact i8 x hx
  · have : ∀ s : List Nat, s.Nodup → i ∈ s → (s.filter (fun x => decide (rmM M i 4 x = 1))).length = (s.filter (fun x => decide (M 4 x = 1))).length + 1 := by
      intro s
      induction s with
      | nil => intro _ h; cases h
      | cons a s ih =>
        intro hn h
        rw [List.nodup_cons] at hn
        rw [List.filter_cons, List.filter_cons]
        by_cases c : a = i
        · subst c
          rw [oi, hm.2, if_pos (by decide), if_neg (by decide), List.length_cons]
          congr 2
          exact filt_congr (fun x hx => o4 x (fun c => hn.1 (c ▸ hx)))
        · have hs : i ∈ s := (List.mem_cons.mp h).resolve_left (fun e => c e.symm)
          have := ih hn.2 hs
          rw [o4 a c]
          split
          · rw [List.length_cons, List.length_cons]; omega
          · exact this
    have hin : i ∈ ino T := (i5 i).mpr ⟨hm.1, by rw [hm.2]; decide⟩
    show rmM M i 0 12 = nI (gone (rmM M i) T).length
    unfold gone
    rw [this _ hnd hin, ← nI_1]
    unfold rmM; rw [up2_at, i11]; rfl
  · rw [o 0 13 (by omega) (by omega)]; exact i12
  · rw [o 8 j (by omega) (by omega)]; exact i13 j
/-- whether a removal rebuilds -/
def due (M : MT) : Prop := M 0 13 * M 0 11 < 100 * M 0 12
theorem S_goes (I : TI M T N W) (hd : 12 < d) {i : Nat} (hi : i ∈ live M T) (q1 : ¬ due (rmM M i) → Q (some (vi (nI (live (rmM M i) T).length))) (rmM M i)) (q2 : due (rmM M i) → ∀ M', RebP (rmM M i) M' N (live (rmM M i) T) → TI M' (bt 7 (live (rmM M i) T)) N W → Q (some (vi (nI (live (rmM M i) T).length))) M') : WQ z d j_Mo_goes [vr (some 0), vi (nI i)] M Q := by
  have hm := (I.mem_live i).mp hi
  have h5 : i < 500 := by have := I.2.1; omega
  refine M_goes_0 ⟨ix_nI h5 (by decide), fun M1 e1 => ?_⟩
  rw [nI_clamp (by omega), up2_ne (by omega)] at e1
  have e1 : M1 = rmM M i := e1
  subst e1
  have I1 := TI_rm I hi
  split
  · rename_i c
    refine ⟨by omega, S_reb I1 (by omega) (fun M' P I' => ⟨by omega, M_live_0 ?_⟩)⟩
    show Q (some (vi (M' 0 11 - M' 0 12))) M'
    rw [P.2.2.2.1, P.2.2.2.2.1, ← nI_0, nI_sub (Nat.zero_le _), Nat.sub_zero]
    exact q2 c M' P I'
  · rename_i c
    refine ⟨by omega, M_live_0 ?_⟩
    show Q (some (vi (rmM M i 0 11 - rmM M i 0 12))) _
    rw [I1.size]; exact q1 c
theorem S_remove (I : TI M T N W) (hd : 13 < d) (q0 : ¬ (ix x N ∧ M 4 x.toNatClampNeg = 0) → Q (some (vi 0)) (thn M 1)) (q1 : ∀ i, i ∈ live M T → x = nI i → ¬ due (rmM (thn M 0) i) → Q (some (vi (nI (live (rmM (thn M 0) i) T).length))) (rmM (thn M 0) i)) (q2 : ∀ i, i ∈ live M T → x = nI i → due (rmM (thn M 0) i) → ∀ M', RebP (rmM (thn M 0) i) M' N (live (rmM (thn M 0) i) T) → TI M' (bt 7 (live (rmM (thn M 0) i) T)) N W → Q (some (vi (nI (live (rmM (thn M 0) i) T).length))) M') : WQ z d j_Mo_remove [vr (some 0), vi x] M Q := by
  have I0 : TI (thn M 0) T N W := TI_thn I
  refine M_remove_0 ⟨by omega, S_isLive (N := N) I0.1 I.2.1 (by omega) (fun h1 h2 => onI_1 ?_) (fun h => onI_0 (S_fails' (by omega) (q0 ?_)))⟩
  · obtain ⟨i, hi, e⟩ := ix_ex h1 (by have := I.2.1; omega)
    subst e
    rw [nI_clamp (by have := I.2.1; omega)] at h2
    have hl : i ∈ live (thn M 0) T := (I0.mem_live i).mpr ⟨hi, h2⟩
    have hl' : i ∈ live M T := live_thn ▸ hl
    exact ⟨by omega, S_goes I0 (by omega) hl (fun c => q1 i hl' rfl c) (fun c M' P I' => q2 i hl' rfl c M' P I')⟩
  · intro c; exact h ⟨c.1, by rw [up2_ne (by omega)]; exact c.2⟩
end CHG
