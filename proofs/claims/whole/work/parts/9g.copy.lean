/-! ===== copies of a tree: Tree(), copy ===== -/
/-- what a tree of the class stands on -/
def RTr (g : AHp) (t b : Nat) (na : Nat → Nat) (K : MT) (T : Tr) (N : Nat) (W : Int) : Prop :=
  CV g g t b na (fun i => i ∈ ino T) K ∧ TI K T N W ∧ CH K (ino T) ∧ (∀ i, i < 500 → (i ∈ ino T → hP g b i = some (na i)) ∧ (i ∉ ino T → hP g b i = none)) ∧ K 43 2 = nI (live K T).length
theorem RO.rt {g : AHp} {c t b : Nat} {na : Nat → Nat} {K : MT} {T : Tr} {N : Nat} {W : Int} (O : RO g c t b na K T N W) : RTr g t b na K T N W := O.2
theorem RTr.ro {g : AHp} {c t b : Nat} {na : Nat → Nat} {K : MT} {T : Tr} {N : Nat} {W : Int} (O : RTr g t b na K T N W) (h1 : hk g c = 6) (h2 : hP g c 6 = some t) : RO g c t b na K T N W := ⟨⟨h1, h2⟩, O⟩
theorem CV.emp {g : AHp} {t b : Nat} {na : Nat → Nat} {K : MT} (h : hk g t = 5 ∧ t < hsz g ∧ hP g t 0 = some b ∧ hk g b = 12 ∧ hLen g b = 500 ∧ b < hsz g) (hp : ∀ k, 1 ≤ k → k ≤ 3 → hP g t k = none) (k1 : K 0 9 = -1 ∧ K 43 0 = -1 ∧ K 43 1 = -1) (hi : hI g t 4 = K 0 10 ∧ hI g t 5 = K 0 11 ∧ hI g t 6 = K 43 2 ∧ hI g t 7 = K 0 13 ∧ hI g t 8 = K 0 14 ∧ hI g t 9 = K 0 15) : CV g g t b na (fun _ => False) K := by
  refine ⟨h, fun i hi => hi.elim, fun k a b => ?_, fun k a b => ?_, fun i j hi => hi.elim, Fr.refl⟩
  · have e : K (trR k) (trF k) = -1 := by
      have : k = 1 ∨ k = 2 ∨ k = 3 := by omega
      rcases this with rfl | rfl | rfl
      · exact k1.1
      · exact k1.2.1
      · exact k1.2.2
    rw [e, oa_n]; exact ⟨hp k a b, Or.inl rfl⟩
  · have : k = 4 ∨ k = 5 ∨ k = 6 ∨ k = 7 ∨ k = 8 ∨ k = 9 := by omega
    rcases this with rfl | rfl | rfl | rfl | rfl | rfl
    · exact hi.1
    · exact hi.2.1
    · exact hi.2.2.1
    · exact hi.2.2.2.1
    · exact hi.2.2.2.2.1
    · exact hi.2.2.2.2.2
/-- all but the ints of a cell -/
def EqX (Y Z : AHp) (z : Nat) : Prop := (hk Z = hk Y ∧ hLen Z = hLen Y ∧ hP Z = hP Y ∧ hJ Z = hJ Y ∧ hsz Z = hsz Y ∧ hsu Z = hsu Y) ∧ ∀ a, a ≠ z → hI Z a = hI Y a
def Sz2 (Y Z : AHp) (z i j : Nat) (v w : Int32) : Prop := EqX Y Z z ∧ ∀ k, hI Z z k = if k = j then w else if k = i then v else hI Y z k
theorem Sz2_ok {Y : AHp} {z i j : Nat} {v w : Int32} : Sz2 Y (sI (sI Y z i v) z j w) z i j v w := by
  refine ⟨⟨⟨by rw [hk_sI, hk_sI], by rw [hLen_sI, hLen_sI], by rw [hP_sI, hP_sI], by rw [hJ_sI, hJ_sI], by rw [hsz_sI, hsz_sI], by rw [hsu_sI, hsu_sI]⟩, fun a ha => by rw [hI_sIo ha, hI_sIo ha]⟩, fun k => ?_⟩
  by_cases c : k = j
  · rw [if_pos c, c, hI_at]
  · rw [if_neg c, hI_ne (fun z => c z.2)]
    by_cases c2 : k = i
    · rw [if_pos c2, c2, hI_at]
    · rw [if_neg c2, hI_ne (fun z => c2 z.2)]
theorem EqX.trans {Y Z Z' : AHp} {z : Nat} (e1 : EqX Y Z z) (e2 : EqX Z Z' z) : EqX Y Z' z := by
  obtain ⟨⟨a1, a2, a3, a4, a5, a6⟩, a7⟩ := e1
  obtain ⟨⟨b1, b2, b3, b4, b5, b6⟩, b7⟩ := e2
  exact ⟨⟨b1.trans a1, b2.trans a2, b3.trans a3, b4.trans a4, b5.trans a5, b6.trans a6⟩, fun a ha => (b7 a ha).trans (a7 a ha)⟩
theorem EqX.kp {h Y Z : AHp} {z : Nat} {A : Nat → Prop} (e : EqX Y Z z) (K : Keep h Y A) (q : hsz h ≤ z ∨ A z) : Keep h Z A := by
  obtain ⟨⟨a1, a2, a3, a4, a5, a6⟩, a7⟩ := e
  refine ⟨by rw [a5]; exact K.1, fun x hx => ?_⟩
  have kk := K.2 x hx
  refine ⟨by rw [a1]; exact kk.1, by rw [a2]; exact kk.2.1, fun hA => ?_⟩
  have cc := kk.2.2 hA
  have ne : x ≠ z := fun e => by
    rcases q with q | q
    · omega
    · exact hA (e ▸ q)
  exact ⟨by rw [a7 x ne]; exact cc.1, by rw [a3]; exact cc.2.1, by rw [a4]; exact cc.2.2⟩
section COPY
variable {h g : AHp} {t b : Nat} {na : Nat → Nat} {K : MT} {T : Tr} {N : Nat} {W : Int} {lim : Nat × Nat} {d : Nat} {R : RT} {X : XT}
/-- a new tree -/
theorem C_treeI {X : XT} (hz : hsz h + 2 ≤ lim.1) (hu : hsu h + 510 ≤ lim.2) (q : ∀ g, Keep h g (fun _ => False) → hsz g = hsz h + 2 → hsu g = hsu h + 510 → (hk g (hsz h) = 5 ∧ hP g (hsz h) 0 = some (hsz h + 1) ∧ hk g (hsz h + 1) = 12 ∧ hLen g (hsz h + 1) = 500) → (∀ k, 1 ≤ k → k ≤ 3 → hP g (hsz h) k = none) → (hI g (hsz h) 4 = 0 ∧ hI g (hsz h) 5 = 0 ∧ hI g (hsz h) 6 = 0 ∧ hI g (hsz h) 7 = 50 ∧ hI g (hsz h) 8 = 0 ∧ hI g (hsz h) 9 = 0) → (∀ i, hP g (hsz h + 1) i = none) → R none g) : WM lim d j_Tr_init [vr (some (hsz h))] (nw h 5 10) R X := by
  have kN : hk (nw h 5 10) (hsz h) = 5 := up1_on _
  have k0 : Keep h (nw h 5 10) (fun _ => False) := nw_keep
  have z0 : hsz (nw h 5 10) = hsz h + 1 := rfl
  have u0 : hsu (nw h 5 10) = hsu h + 10 := rfl
  generalize nw h 5 10 = g0 at kN k0 z0 u0
  have e5 : (500 : Int32).toNatClampNeg = 500 := rfl
  refine B_Tr_init_0 ?_
  rw [e5]
  have k1 : Keep h (nw g0 12 500) (fun _ => False) := k0.trans nw_keep
  have z1 : hsz (nw g0 12 500) = hsz g0 + 1 := rfl
  have u1 : hsu (nw g0 12 500) = hsu g0 + 500 := rfl
  have kb : hk (nw g0 12 500) (hsz g0) = 12 := up1_on _
  have lb : hLen (nw g0 12 500) (hsz g0) = 500 := up1_on _
  have pb : ∀ i, hP (nw g0 12 500) (hsz g0) i = none := fun i => if_pos rfl
  have kt : hk (nw g0 12 500) (hsz h) = 5 := (up1_off _ (by omega)).trans kN
  refine ⟨by decide, by decide, by omega, by omega, ?_⟩
  generalize nw g0 12 500 = g1 at k1 z1 u1 kb lb pb kt
  rw [z0] at kb lb pb z1 ⊢
  refine ⟨kt, ?_⟩
  intro H1
  have F1 : Sy1 g1 H1 (hsz h) 0 (some (hsz h + 1)) := Sy1_ok
  clear_value H1
  obtain ⟨⟨a1, a2, a3, a4, a5, a6⟩, a7, a8⟩ := F1
  simp only [hk_sP, hk_sI]
  have L : hsz h ≤ hsz h := Nat.le_refl _
  have kH : Keep h H1 (fun _ => False) := by
    refine ⟨by rw [a5]; exact k1.1, fun x hx => ?_⟩
    have kk := k1.2 x hx
    have cc := kk.2.2 (fun z => z)
    exact ⟨by rw [a1]; exact kk.1, by rw [a2]; exact kk.2.1, fun _ => ⟨by rw [a3]; exact cc.1, by rw [a7 x (by omega)]; exact cc.2.1, by rw [a4]; exact cc.2.2⟩⟩
  have kt1 : hk H1 (hsz h) = 5 := by rw [a1]; exact kt
  have kb1 : hk H1 (hsz h + 1) = 12 := by rw [a1]; exact kb
  have lb1 : hLen H1 (hsz h + 1) = 500 := by rw [a2]; exact lb
  have pb1 : ∀ i, hP H1 (hsz h + 1) i = none := fun i => by rw [a7 _ (by omega)]; exact pb i
  have pt1 : hP H1 (hsz h) 0 = some (hsz h + 1) := by rw [a8, if_pos rfl]
  refine ⟨kt1, kt1, kt1, kt1, kt1, kt1, kt1, kt1, kt1, trivial, ?_⟩
  refine q _ (sI_kp (sI_kp (sI_kp (sI_kp (sI_kp (sI_kp (sP_kp (sP_kp (sP_kp kH (Or.inl L)) (Or.inl L)) (Or.inl L)) (Or.inl L)) (Or.inl L)) (Or.inl L)) (Or.inl L)) (Or.inl L)) (Or.inl L)) ?_ ?_ ⟨?_, ?_, ?_, ?_⟩ (fun k h1 h2 => ?_) ⟨?_, ?_, ?_, ?_, ?_, ?_⟩ (fun i => ?_)
  · simp only [hsz_sI, hsz_sP]; rw [a5, z1]
  · simp only [hsu_sI, hsu_sP]; rw [a6, u1, u0]
  · simp only [hk_sP, hk_sI]; exact kt1
  · simp only [hP_sI, hP_sP]; rw [hPq_ne (by omega), hPq_ne (by omega), hPq_ne (by omega)]; exact pt1
  · simp only [hk_sP, hk_sI]; exact kb1
  · simp only [hLen_sP, hLen_sI]; exact lb1
  · simp only [hP_sI, hP_sP]
    have : k = 1 ∨ k = 2 ∨ k = 3 := by omega
    rcases this with rfl | rfl | rfl
    · rw [hPq_ne (by omega), hPq_ne (by omega), hPq_at]
    · rw [hPq_ne (by omega), hPq_at]
    · rw [hPq_at]
  · rw [hI_ne (by omega), hI_ne (by omega), hI_ne (by omega), hI_ne (by omega), hI_ne (by omega), hI_at]
  · rw [hI_ne (by omega), hI_ne (by omega), hI_ne (by omega), hI_ne (by omega), hI_at]
  · rw [hI_ne (by omega), hI_ne (by omega), hI_ne (by omega), hI_at]
  · rw [hI_ne (by omega), hI_ne (by omega), hI_at]
  · rw [hI_ne (by omega), hI_at]
  · rw [hI_at]
  · simp only [hP_sI, hP_sP]; rw [hPq_ne (by omega), hPq_ne (by omega), hPq_ne (by omega)]; exact pb1 i
theorem C_copy (O : RTr h t b na K T N W) (hd : 20 < d) (hz : hsz h + 110 ≤ lim.1) (hu : hsu h + 1750 ≤ lim.2) (q : ∀ g t' b' na' K2, RTr g t' b' na' K2 T N W → (∀ r i, r < 36 → K2 r i = K r i) → Keep h g (fun _ => False) → hsz h ≤ t' → hsz h ≤ b' → (∀ i, i ∈ ino T → hsz h ≤ na' i) → hsz g ≤ hsz h + 102 → hsu g ≤ hsu h + 1710 → R (some (vr (some t'))) g) : WM lim d j_Tr_copy [vr (some t)] h R X := by
  obtain ⟨V, I, C, BY, L2⟩ := O
  have hlen : (ino T).length ≤ 100 := I.2.2.2.2.2.2.2.2.2.1
  obtain ⟨EZ, -, ⟨kk, RBk⟩, -⟩ := I.2.2.1
  have hh : tht T ≤ 13 := RB_low RBk (by rw [← tsz_ino]; exact hlen)
  have tz := V.1.2.1
  refine B_Tr_copy_0 ⟨by omega, by omega, by omega, C_treeI (by omega) (by omega) (fun g1 k1 z1 u1 s1 p1 i1 b1 => ?_)⟩
  have kt1 := k1.2 t tz
  have ct1 := kt1.2.2 (fun z => z)
  have ktt : hk g1 t = 5 := kt1.1.trans V.kt
  have ne : t ≠ hsz h := by omega
  rw [ct1.1, V.ins]
  have f5 : hI (sI g1 (hsz h) 4 (K 0 10)) t 5 = K 0 11 := by rw [hI_sIo ne, ct1.1, V.nod]
  rw [f5]
  simp only [hk_sI]
  refine ⟨ktt, s1.1, ktt, s1.1, ?_⟩
  have F2 : Sz2 g1 (sI (sI g1 (hsz h) 4 (K 0 10)) (hsz h) 5 (K 0 11)) (hsz h) 4 5 (K 0 10) (K 0 11) := Sz2_ok
  generalize sI (sI g1 (hsz h) 4 (K 0 10)) (hsz h) 5 (K 0 11) = g2 at F2
  have t2 : hI g2 t = hI h t := by rw [F2.1.2 t ne, ct1.1]
  rw [t2, V.liv]
  have f7 : hI (sI g2 (hsz h) 6 (K 43 2)) t 7 = K 0 13 := by rw [hI_sIo ne, t2, V.per]
  rw [f7]
  have F3 : Sz2 g2 (sI (sI g2 (hsz h) 6 (K 43 2)) (hsz h) 7 (K 0 13)) (hsz h) 6 7 (K 43 2) (K 0 13) := Sz2_ok
  generalize sI (sI g2 (hsz h) 6 (K 43 2)) (hsz h) 7 (K 0 13) = g3 at F3
  have t3 : hI g3 t = hI h t := by rw [F3.1.2 t ne, t2]
  rw [t3, V.rbs]
  have f9 : hI (sI g3 (hsz h) 8 (K 0 14)) t 9 = K 0 15 := by rw [hI_sIo ne, t3, V.rbt]
  rw [f9]
  have F4 : Sz2 g3 (sI (sI g3 (hsz h) 8 (K 0 14)) (hsz h) 9 (K 0 15)) (hsz h) 8 9 (K 0 14) (K 0 15) := Sz2_ok
  generalize sI (sI g3 (hsz h) 8 (K 0 14)) (hsz h) 9 (K 0 15) = g4 at F4
  have X2 := F2.1
  have X3 := X2.trans F3.1
  have X4 := X3.trans F4.1
  have kg2 : hk g2 = hk g1 := X2.1.1
  have kg3 : hk g3 = hk g1 := X3.1.1
  have kg4 : hk g4 = hk g1 := X4.1.1
  have k4 : Keep h g4 (fun _ => False) := X4.kp k1 (Or.inl (Nat.le_refl _))
  have kt4 := k4.2 t tz
  have ct4 := kt4.2.2 (fun z => z)
  rw [ct4.2.1, V.ro.1, show K 0 9 = rootOf T from EZ.2]
  refine ⟨ktt, s1.1, ktt, s1.1, ktt, s1.1, ktt, s1.1, ktt, all1.mpr s1.1, by omega, ?_⟩
  have Kx : ∀ r i, ¬ (r = 0 ∧ i = 9) → r < 36 → up2 (up2 (up2 K 0 9 (-1)) 43 0 (-1)) 43 1 (-1) r i = K r i := fun r i h1 h2 => by rw [up2_ne (by omega), up2_ne (by omega), up2_ne (by omega)]
  have Kx9 : up2 (up2 (up2 K 0 9 (-1)) 43 0 (-1)) 43 1 (-1) 0 9 = -1 := by rw [up2_ne (by omega), up2_ne (by omega), up2_at]
  have Kx0 : up2 (up2 (up2 K 0 9 (-1)) 43 0 (-1)) 43 1 (-1) 43 0 = -1 := by rw [up2_ne (by omega), up2_at]
  have Kx1 : up2 (up2 (up2 K 0 9 (-1)) 43 0 (-1)) 43 1 (-1) 43 1 = -1 := by rw [up2_at]
  have Kx2 : up2 (up2 (up2 K 0 9 (-1)) 43 0 (-1)) 43 1 (-1) 43 2 = K 43 2 := by rw [up2_ne (by omega), up2_ne (by omega), up2_ne (by omega)]
  generalize up2 (up2 (up2 K 0 9 (-1)) 43 0 (-1)) 43 1 (-1) = K1 at Kx Kx9 Kx0 Kx1 Kx2
  have ii : ∀ k, hI g4 (hsz h) k = if k = 9 then K 0 15 else if k = 8 then K 0 14 else if k = 7 then K 0 13 else if k = 6 then K 43 2 else if k = 5 then K 0 11 else if k = 4 then K 0 10 else hI g1 (hsz h) k := fun k => by rw [F4.2, F3.2, F2.2]
  have V4 : CV g4 g4 (hsz h) (hsz h + 1) na (fun _ => False) K1 := by
    obtain ⟨⟨c1, c2, c3, c4, c5, c6⟩, c7⟩ := X4
    refine CV.emp ⟨by rw [c1]; exact s1.1, by rw [c5]; omega, by rw [c3]; exact s1.2.1, by rw [c1]; exact s1.2.2.1, by rw [c2]; exact s1.2.2.2, by rw [c5]; omega⟩ (fun k h1 h2 => by rw [c3]; exact p1 k h1 h2) ⟨Kx9, Kx0, Kx1⟩ ⟨?_, ?_, ?_, ?_, ?_, ?_⟩
    · rw [ii, Kx 0 10 (by omega) (by omega)]; rfl
    · rw [ii, Kx 0 11 (by omega) (by omega)]; rfl
    · rw [ii, Kx2]; rfl
    · rw [ii, Kx 0 13 (by omega) (by omega)]; rfl
    · rw [ii, Kx 0 14 (by omega) (by omega)]; rfl
    · rw [ii, Kx 0 15 (by omega) (by omega)]; rfl
  have S4 : TS h g4 (hsz h) (hsz h + 1) na (fun _ => False) K1 [] 0 := by
    obtain ⟨⟨c1, c2, c3, c4, c5, c6⟩, c7⟩ := X4
    exact ⟨V4, ⟨Kx0, Kx1, trivial⟩, fun i _ => ⟨fun z => z.elim, fun _ => by rw [c3]; exact b1 i⟩, k4, ⟨Nat.le_refl _, by omega, fun i z => z.elim⟩, ⟨by rw [c5]; omega, by rw [c6]; omega⟩, fun x hx => (by cases hx), List.nodup_nil⟩
  rw [← nI_0]
  refine C_take V I.2.2.2.2.2.2.2.2.2.2.2.2 (fun i hi => ?_) hz hu T (-1) 0 (d - 1) g4 na (fun _ => False) K1 [] 0 _ EZ.1 (fun z hz => hz) I.nodup (fun _ _ z => z) (by omega) (by omega) (by omega) S4 (fun r i hi h0 hr => Kx r i (by omega) hr) (fun g5 na5 K5 S5 k5 k5r k5l _ => onO_v ⟨S5.1.kt, trivial, ?_⟩)
  · have := (I.2.2.2.2.1 i).mp hi
    rcases I.2.2.2.2.2.1 i this.1 with e | e | e
    · exact Or.inl e
    · exact Or.inr e
    · exact (this.2 e).elim
  have lt5 : ∀ i, i ∈ ino T → i < 500 := fun i hi => V.lt hi
  have S6 : TS h g5 (hsz h) (hsz h + 1) na5 (fun i => i ∈ ino T) K5 (ino T) (ino T).length := by
    have := S5.dom (D' := fun i => i ∈ ino T) (fun i => ⟨fun z => z.elim (fun z => z.elim) id, Or.inr⟩)
    rw [List.nil_append, Nat.zero_add] at this
    exact this
  have pdT : pd (fun i => i ∈ ino T) (rootOf T) := by
    cases T with
    | leaf _ => exact Or.inl rfl
    | branch m _ _ => exact Or.inr ⟨m, List.mem_append_right _ List.mem_cons_self, rfl⟩
  have V7 : CV g5 (sP g5 (hsz h) 1 (oa na5 (rootOf T))) (hsz h) (hsz h + 1) na5 (fun i => i ∈ ino T) (up2 K5 0 9 (rootOf T)) := S6.1.wtP (k := 1) (by decide) (by decide) pdT
  have u9 : up2 K5 0 9 (rootOf T) 0 9 = rootOf T := up2_at
  have uo : ∀ r i, ¬ (r = 0 ∧ i = 9) → up2 K5 0 9 (rootOf T) r i = K5 r i := fun r i h1 => up2_ne h1
  generalize up2 K5 0 9 (rootOf T) = K6 at V7 u9 uo
  have S7 := S6.step V7 (S6.2.1.congr (fun i _ => ⟨uo 40 i (by omega), uo 41 i (by omega)⟩) (uo 43 0 (by omega)) (uo 43 1 (by omega))) S6.2.2.2.2.2.2.1 S6.2.2.2.2.2.2.2
  generalize sP g5 (hsz h) 1 (oa na5 (rootOf T)) = g6 at S7 V7
  have e6 : ∀ r i, r < 36 → i < 500 → K6 r i = K r i := by
    intro r i hr hi
    by_cases c : r = 0 ∧ i = 9
    · rw [c.1, c.2, u9]; exact EZ.2.symm
    · rw [uo r i c]
      by_cases c2 : r = 7 ∧ rtO T = some i
      · rw [c2.1, k5r i c2.2]
        obtain ⟨-, c2⟩ := c2
        have E1 := EZ.1
        cases T with
        | leaf _ => cases c2
        | branch m _ _ => have e : m = i := Option.some.inj c2; rw [← e]; exact E1.1.symm
      · rw [k5 r i hr hi c2]; exact Kx r i c hr
  have m36 : ∀ r i, r < 36 → mixM K K6 r i = K r i := fun r i hr => if_pos hr
  have mhi : ∀ r i, ¬ r < 36 → mixM K K6 r i = K6 r i := fun r i hr => if_neg hr
  have V8 : CV g6 g6 (hsz h) (hsz h + 1) na5 (fun i => i ∈ ino T) (mixM K K6) := by
    refine S7.1.congr (fun r i hi hr => ?_) (fun i hi => ?_) (fun i hi => mhi 43 i (by omega))
    · by_cases c : r < 36
      · rw [m36 r i c, e6 r i c (lt5 i hi)]
      · exact mhi r i c
    · rw [m36 0 i (by omega), e6 0 i (by omega) (by omega)]
  have I8 : TI (mixM K K6) T N W := TI_congr (fun r i h1 h2 => m36 r i (by omega)) (fun i h1 h2 => m36 0 i (by omega)) I
  have lv : live (mixM K K6) T = live K T := live_E (fun k => m36 4 k (by omega))
  have hs := S7.2.2.2.2.2.1
  refine q g6 (hsz h) (hsz h + 1) na5 (mixM K K6) ⟨V8, I8, S7.2.1.congr (fun i _ => ⟨mhi 40 i (by omega), mhi 41 i (by omega)⟩) (mhi 43 0 (by omega)) (mhi 43 1 (by omega)), S7.2.2.1, ?_⟩ m36 S7.2.2.2.1 (Nat.le_refl _) (by omega) S7.2.2.2.2.1.2.2 (by omega) (by omega)
  rw [lv, mhi 43 2 (by omega), uo 43 2 (by omega), k5l, Kx2]
  exact L2
end COPY
