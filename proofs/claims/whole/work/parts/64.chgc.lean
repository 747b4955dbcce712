/-! ===== the class's changes ===== -/
def mixM (M Kc : MT) : MT := fun r i => if r < 36 then M r i else Kc r i
theorem mixM_lo {M Kc : MT} {r i : Nat} (h : r < 36) : mixM M Kc r i = M r i := if_pos h
theorem mixM_hi {M Kc : MT} {r i : Nat} (h : ¬ r < 36) : mixM M Kc r i = Kc r i := if_neg h
section CHGC
variable {g g1 : AHp} {c t b : Nat} {na : Nat → Nat} {K K1 : MT} {T : Tr} {N : Nat} {W W' : Int} {lim : Nat × Nat} {d : Nat} {R : RT} {X : XT} {x y w : Int32}
theorem CV.rebase {g0 : AHp} {D : Nat → Prop} (V : CV g0 g t b na D K) : CV g g t b na D K := ⟨V.1, V.2.1, V.2.2.1, V.2.2.2.1, V.2.2.2.2.1, Fr.refl⟩
theorem RO.c_own (O : RO g c t b na K T N W) : ¬ own t na (fun i => i ∈ ino T) c := fun h => by
  rcases h with h | ⟨i, hi, h⟩
  · have := O.1.1; rw [h, O.2.1.kt] at this; cases this
  · have := O.1.1; rw [h, O.2.1.kn hi] at this; cases this
theorem RO.b_own (O : RO g c t b na K T N W) : ¬ own t na (fun i => i ∈ ino T) b := fun h => by
  have hb := O.2.1.1.2.2.2.1
  rcases h with h | ⟨i, hi, h⟩
  · rw [h, O.2.1.kt] at hb; cases hb
  · rw [h, O.2.1.kn hi] at hb; cases hb
theorem RO.upd (O : RO g c t b na K T N W) (V1 : CV g g1 t b na (fun i => i ∈ ino T) K1) (I1 : TI K1 T N W') (C1 : CH K1 (ino T)) (hl : K1 43 2 = nI (live K1 T).length) : RO g1 c t b na K1 T N W' := by
  have F := V1.2.2.2.2.2
  have hc := F.2.2.2.2 c O.c_own
  have hb := F.2.2.2.2 b O.b_own
  refine ⟨⟨by rw [F.2.2.1]; exact O.1.1, by rw [hc.2.1]; exact O.1.2⟩, V1.rebase, I1, C1, fun i hi => ?_, hl⟩
  rw [hb.2.1]; exact O.2.2.2.2.1 i hi
theorem RO.mix {M' : MT} (O : RO g c t b na K T N W) (h : ∀ r i, 1 ≤ r → r ≤ 8 → M' r i = K r i) (h0 : ∀ i, 9 ≤ i → i ≤ 15 → M' 0 i = K 0 i) : RO g c t b na (mixM M' K) T N W := by
  have e4 : ∀ i, mixM M' K 4 i = K 4 i := fun i => by rw [mixM_lo (by decide), h 4 i (by decide) (by decide)]
  have hlv : live (mixM M' K) T = live K T := filt_congr (fun x _ => e4 x)
  refine ⟨O.1, O.2.1.congr (fun r i _ hr => ?_) (fun i hi => ?_) (fun i hi => mixM_hi (by omega)), TI_congr (fun r i h1 h2 => ?_) (fun i h1 h2 => ?_) O.2.2.1, O.2.2.2.1.congr (fun i _ => ⟨mixM_hi (by omega), mixM_hi (by omega)⟩) (mixM_hi (by omega)) (mixM_hi (by omega)), O.2.2.2.2.1, ?_⟩
  · by_cases c : r < 36
    · rw [mixM_lo c, h r i (by omega) (by omega)]
    · rw [mixM_hi c]
  · rw [mixM_lo (by omega), h0 i (by omega) (by omega)]
  · rw [mixM_lo (by omega), h r i h1 h2]
  · rw [mixM_lo (by omega), h0 i h1 (by omega)]
  · rw [mixM_hi (by omega), hlv]; exact O.2.2.2.2.2
theorem TI_pct (I : TI K T N W) (h : 10 ≤ x.toInt ∧ x.toInt ≤ 100) : TI (up2 K 0 13 x) T N W := by
  obtain ⟨i1, i2, i3, i4, i5, i6, i7, i8, i9, i10, i11, i12, i13⟩ := I
  have o : ∀ r i, ¬ (r = 0 ∧ i = 13) → up2 K 0 13 x r i = K r i := fun r i q => up2_ne q
  refine ⟨(o 0 10 (by omega)).trans i1, i2, FinT_congr (fun r i a b => o r i (by omega)) (o 0 9 (by omega)) i3, i4.imp (fun {a b} q => (less_cong (fun i => ⟨o 1 i (by omega), o 2 i (by omega)⟩)).mpr q), fun z => ?_, fun z hz => ?_, fun z hz => ?_, fun z hz => ?_, (o 0 11 (by omega)).trans i9, i10, ?_, by rw [up2_at]; exact h, fun i => by rw [o 8 i (by omega)]; exact i13 i⟩
  · rw [o 4 z (by omega)]; exact i5 z
  · rw [o 4 z (by omega)]; exact i6 z hz
  · rw [o 1 z (by omega), o 2 z (by omega)]; exact i7 z hz
  · rw [o 3 z (by omega)]; exact i8 z hz
  · rw [o 0 12 (by omega), i11]; unfold gone; rw [filt_congr (fun x _ => o 4 x (by omega))]
theorem C_setPct (O : RO g c t b na K T N W) (q1 : ¬ (10 ≤ x.toInt ∧ x.toInt ≤ 100) → thr lim X 1 g) (q2 : 10 ≤ x.toInt ∧ x.toInt ≤ 100 → ∀ g', RO g' c t b na (up2 K 0 13 x) T N W → Fr g g' (own t na (fun i => i ∈ ino T)) → R (some (vi (K 0 13))) g') : WM lim d j_It_setRebuildPercentage [vr (some c), vi x] g R X := by
  refine B_It_setRebuildPercentage_0 ?_
  split
  · rename_i c1; rw [i_lt, show (10 : Int32).toInt = 10 from rfl] at c1; exact ⟨rfl, q1 (by omega)⟩
  · rename_i c1; rw [i_lt, show (10 : Int32).toInt = 10 from rfl] at c1
    split
    · rename_i c2; rw [i_lt, show (100 : Int32).toInt = 100 from rfl] at c2; exact ⟨rfl, q1 (by omega)⟩
    · rename_i c2; rw [i_lt, show (100 : Int32).toInt = 100 from rfl] at c2
      have V1 := O.2.1.wtI (k := 7) (by decide) (by decide) x
      have V1 : CV g (sI g t 7 x) t b na (fun i => i ∈ ino T) (up2 K 0 13 x) := V1
      have hlv : live (up2 K 0 13 x) T = live K T := filt_congr (fun z _ => up2_ne (by omega))
      refine ⟨O.1.1, ?_⟩
      rw [O.1.2, onR_s, O.2.1.per]
      refine ⟨O.2.1.kt, O.1.1, ?_⟩
      rw [onR_s]
      exact ⟨O.2.1.kt, rfl, q2 ⟨by omega, by omega⟩ _ (O.upd V1 (TI_pct O.2.2.1 ⟨by omega, by omega⟩) (O.2.2.2.1.congr (fun i _ => ⟨up2_ne (by omega), up2_ne (by omega)⟩) (up2_ne (by omega)) (up2_ne (by omega))) (by rw [up2_ne (by omega), hlv]; exact O.2.2.2.2.2)) V1.2.2.2.2.2⟩
/-- the reference's memory after a restore, but for its number of an exception -/
def rsM (M : MT) (i : Nat) : MT := up2 (up2 M 4 i 0) 0 12 (M 0 12 - 1)
theorem TI_rs (I : TI K T N W) {i : Nat} (hi : i ∈ ino T) (h1 : K 4 i = 1) : TI (rsM K i) T N W ∧ (live (rsM K i) T).length = (live K T).length + 1 := by
  have hnd := I.nodup
  have hlen := I.len
  obtain ⟨i1, i2, i3, i4, i5, i6, i7, i8, i9, i10, i11, i12, i13⟩ := I
  have o : ∀ r j, r ≠ 4 → ¬ (r = 0 ∧ j = 12) → rsM K i r j = K r j := fun r j a b => by unfold rsM; rw [up2_ne b, up2_ne (by omega)]
  have o4 : ∀ j, j ≠ i → rsM K i 4 j = K 4 j := fun j a => by unfold rsM; rw [up2_ne (by omega), up2_ne (by omega)]
  have oi : rsM K i 4 i = 0 := by unfold rsM; rw [up2_ne (by omega), up2_at]
  have key : ∀ s : List Nat, s.Nodup → i ∈ s → (s.filter (fun x => decide (K 4 x = 1))).length = (s.filter (fun x => decide (rsM K i 4 x = 1))).length + 1 := by
    intro s
    induction s with
    | nil => intro _ h; cases h
    | cons a s ih =>
      intro hn h
      rw [List.nodup_cons] at hn
      rw [List.filter_cons, List.filter_cons]
      by_cases c : a = i
      · subst c
        rw [oi, h1, if_pos (by decide), if_neg (by decide), List.length_cons]
        congr 2
        exact (filt_congr (fun x hx => o4 x (fun c => hn.1 (c ▸ hx)))).symm
      · have hs : i ∈ s := (List.mem_cons.mp h).resolve_left (fun e => c e.symm)
        have := ih hn.2 hs
        rw [o4 a c]
        split
        · rw [List.length_cons, List.length_cons]; omega
        · exact this
  have hst : ∀ z ∈ ino T, rsM K i 4 z = 0 ∨ rsM K i 4 z = 1 := fun z hz => by
    by_cases c : z = i
    · rw [c, oi]; exact Or.inl rfl
    · rw [o4 z c]
      rcases i6 z ((i5 z).mp hz).1 with e | e | e
      · exact Or.inl e
      · exact Or.inr e
      · exact (((i5 z).mp hz).2 e).elim
  have hl2 := filt_len (M := rsM K i) (ino T) hst
  have hk := key _ hnd hi
  have hg : (gone K T).length = (gone (rsM K i) T).length + 1 := hk
  refine ⟨⟨(o 0 10 (by omega) (by omega)).trans i1, i2, FinT_congr (fun r j a b => o r j (by omega) (by omega)) (o 0 9 (by omega) (by omega)) i3, i4.imp (fun {a b} q => (less_cong (fun j => ⟨o 1 j (by omega) (by omega), o 2 j (by omega) (by omega)⟩)).mpr q), fun z => ?_, fun z hz => ?_, fun z hz => ?_, fun z hz => ?_, (o 0 11 (by omega) (by omega)).trans i9, i10, ?_, ?_, fun j => ?_⟩, ?_⟩
  · by_cases c : z = i
    · subst c; rw [oi, i5, h1]; exact ⟨fun q => ⟨q.1, by decide⟩, fun q => ⟨q.1, by decide⟩⟩
    · rw [o4 z c]; exact i5 z
  · by_cases c : z = i
    · rw [c, oi]; exact Or.inl rfl
    · rw [o4 z c]; exact i6 z hz
  · rw [o 1 z (by omega) (by omega), o 2 z (by omega) (by omega)]; exact i7 z hz
  · rw [o 3 z (by omega) (by omega)]; exact i8 z hz
  · show rsM K i 0 12 = _
    unfold rsM; rw [up2_at, i11, hg, show (1 : Int32) = nI 1 from rfl, nI_sub (by omega), Nat.add_sub_cancel]; rfl
  · rw [o 0 13 (by omega) (by omega)]; exact i12
  · rw [o 8 j (by omega) (by omega)]; exact i13 j
  · have e1 : (live (rsM K i) T).length + (gone (rsM K i) T).length = (ino T).length := hl2
    omega
theorem C_restore (O : RO g c t b na K T N W) (hd : 2 < d) (q0 : ¬ ix x N → thr lim X 3 g) (q1 : ∀ i, i < N → x = nI i → K 4 i = 1 → ∀ g', RO g' c t b na (up2 (rsM K i) 43 2 (nI (live (rsM K i) T).length)) T N W → Fr g g' (own t na (fun i => i ∈ ino T)) → R (some (vi (nI (live (rsM K i) T).length))) g') (q2 : ∀ i, i < N → x = nI i → ¬ K 4 i = 1 → thr lim X 2 g) : WM lim d j_It_restore [vr (some c), vi x] g R X := by
  have hN := O.2.2.1.2.1
  refine B_It_restore_0 ⟨O.1.1, ?_⟩
  rw [O.1.2, onR_s]
  refine ⟨all1.mpr O.2.1.kt, by omega, C_was O (fun h => onI_1 ⟨O.1.1, ?_⟩) (fun h => onI_0 ⟨rfl, q0 h⟩)⟩
  rw [O.1.2, onR_s]
  obtain ⟨i, hi, e⟩ := ix_ex h (by omega)
  subst e
  refine ⟨all1.mpr O.2.1.kt, by omega, C_find O (by omega) (fun j hj e => onO_v ?_) (fun h' => onO_v ⟨rfl, q2 i hi rfl (fun e => h' ⟨h, by rw [nI_clamp (by omega), e]; decide⟩)⟩)⟩
  have : i = j := nI_inj (by omega) (O.2.1.lt hj) e
  subst this
  have i5 := O.2.1.lt hj
  rw [ifN_s, onR_s, O.2.1.st hj]
  refine ⟨O.2.1.kn hj, ?_⟩
  by_cases c0 : K 4 i = 0
  · rw [if_pos c0]; exact ⟨rfl, q2 i hi rfl (by rw [c0]; decide)⟩
  · have c1 : K 4 i = 1 := (O.2.2.1.st hj).resolve_left c0
    rw [if_neg c0, onR_s]
    have V1 : CV g (sI g (na i) 4 0) t b na (fun i => i ∈ ino T) (up2 K 4 i 0) := O.2.1.wnI (k := 4) hj (by decide) 0
    have V2 : CV g (sI (sI g (na i) 4 0) t 6 (hI (sI g (na i) 4 0) t 6 + 1)) t b na (fun i => i ∈ ino T) (up2 (up2 K 4 i 0) 43 2 (hI (sI g (na i) 4 0) t 6 + 1)) := V1.wtI (k := 6) (by decide) (by decide) _
    have F1 := V1.2.2.2.2.2
    have F2 := V2.2.2.2.2.2
    have hc1 := F1.2.2.2.2 c O.c_own
    have hc2 := F2.2.2.2.2 c O.c_own
    obtain ⟨I2, hl2⟩ := TI_rs O.2.2.1 hj c1
    have e6 : hI (sI g (na i) 4 0) t 6 + 1 = nI (live (rsM K i) T).length := by rw [V1.liv, up2_ne (by omega), O.2.2.2.2.2, hl2, nI_1]
    rw [e6] at V2
    have V3 : CV g (sI (sI g (na i) 4 0) t 6 (nI (live (rsM K i) T).length)) t b na (fun i => i ∈ ino T) (up2 (rsM K i) 43 2 (nI (live (rsM K i) T).length)) := by
      generalize nI (live (rsM K i) T).length = v at V2 ⊢
      have h1 : ∀ r j, ¬ (r = 43 ∧ j = 2) → ¬ (r = 0 ∧ j = 12) → up2 (rsM K i) 43 2 v r j = up2 (up2 K 4 i 0) 43 2 v r j := fun r j a b => by
        have e1 : up2 (rsM K i) 43 2 v r j = rsM K i r j := up2_ne a
        have e2 : up2 (up2 K 4 i 0) 43 2 v r j = up2 K 4 i 0 r j := up2_ne a
        rw [e1, e2]; exact up2_ne b
      refine V2.congr (fun r j _ hr => h1 r j (by omega) (by omega)) (fun j hj' => h1 0 j (by omega) (by omega)) (fun j hj' => ?_)
      by_cases e : j = 2
      · subst e; rw [up2_at, up2_at]
      · exact h1 43 j (by omega) (by omega)
    have lv3 : live (up2 (rsM K i) 43 2 (nI (live (rsM K i) T).length)) T = live (rsM K i) T := filt_congr (fun z _ => up2_ne (by omega))
    have O3 := O.upd V3 (TI_congr (fun r j a b => up2_ne (by omega)) (fun j a b => up2_ne (by omega)) I2) (O.2.2.2.1.congr (fun j _ => ⟨by unfold rsM; rw [up2_ne (by omega), up2_ne (by omega), up2_ne (by omega)], by unfold rsM; rw [up2_ne (by omega), up2_ne (by omega), up2_ne (by omega)]⟩) (by unfold rsM; rw [up2_ne (by omega), up2_ne (by omega), up2_ne (by omega)]) (by unfold rsM; rw [up2_ne (by omega), up2_ne (by omega), up2_ne (by omega)])) (by rw [up2_at, lv3])
    refine ⟨O.2.1.kn hj, b01_0, by rw [hk_sI]; exact O.1.1, ?_⟩
    rw [hc1.2.1, O.1.2, onR_s, onR_s, e6]
    refine ⟨V1.kt, V1.kt, by rw [hk_sI, hk_sI]; exact O.1.1, ?_⟩
    rw [O3.1.2, onR_s, V3.liv, up2_at]
    exact ⟨V3.kt, rfl, q1 i hi rfl c1 _ O3 V3.2.2.2.2.2⟩
end CHGC
