/-! ===== what holds between two calls of the law ===== -/
def Sm (N : Nat) (K K' : MT) : Prop := (∀ r i, 14 ≤ r → r ≤ 35 → r ≠ 22 → K' r i = K r i) ∧ (∀ i, i = 24 ∨ i = 35 ∨ i = 42 → K' 0 i = K 0 i) ∧ ∀ i, i < N → K' 1 i = K 1 i ∧ K' 2 i = K 2 i
/-- the saved copy -/
def SVF (H : AHp) (c t b : Nat) (na : Nat → Nat) (T : Tr) (K : MT) (kk : Nat) : Prop :=
  (K 0 42 = 0 ∧ hP H c 7 = none) ∨ (K 0 42 = 1 ∧ ∃ (t' b' : Nat) (na' : Nat → Nat) (K' : MT) (T' : Tr) (N' : Nat) (W' : Int), hP H c 7 = some t' ∧ RTr H t' b' na' K' T' N' W' ∧ (999 ≤ W' ∧ W' ≤ 999 + 1000 * (kk : Int)) ∧ (∀ a, ownB t b na (fun i => i ∈ ino T) a → ¬ ownB t' b' na' (fun i => i ∈ ino T') a) ∧ (∀ r i, 27 ≤ r → r ≤ 35 → r ≠ 34 → i < 500 → K r i = K' (sR r) i) ∧ ∀ i, i < 7 → K 34 i = K' 0 (9 + i))
def LR (H : AHp) (c m o sc L : Nat) (xs : Nat → Int32) (K : MT) (N F : Nat) (FL : Nat → List SP) (NB : Nat → Int32) (fa : Nat → Nat) (nf Cs : Nat) (cu : Nat → Nat) (tx n : Nat) : Prop :=
  TabA H c m ∧ FA H c F FL NB fa nf ∧ RFs K FL nf ∧ CU H c Cs cu K N nf ∧ TX H c tx m K n ∧ ScA H sc L xs ∧ OuA H o
def LW (H : AHp) (c m o sc L : Nat) (xs : Nat → Int32) (zz kk t b : Nat) (na : Nat → Nat) (K : MT) (T : Tr) (N : Nat) (W : Int) (F : Nat) (FL : Nat → List SP) (NB : Nat → Int32) (fa : Nat → Nat) (nf Cs : Nat) (cu : Nat → Nat) (tx n : Nat) : Prop :=
  RO H c t b na K T N W ∧ c < hsz H ∧ RefAt H m K ∧ LR H c m o sc L xs K N F FL NB fa nf Cs cu tx n ∧ SVF H c t b na T K kk ∧ (999 ≤ W ∧ W ≤ 999 + 1000 * (kk : Int)) ∧ (hsz H ≤ zz + 1000 + 110 * kk ∧ hsu H ≤ 100000 + 1800 * kk)
def LI (H : AHp) (c m o sc L : Nat) (xs : Nat → Int32) (zz kk : Nat) : Prop :=
  ∃ (t b : Nat) (na : Nat → Nat) (K : MT) (T : Tr) (N : Nat) (W : Int) (F : Nat) (FL : Nat → List SP) (NB : Nat → Int32) (fa : Nat → Nat) (nf Cs : Nat) (cu : Nat → Nat) (tx n : Nat), LW H c m o sc L xs zz kk t b na K T N W F FL NB fa nf Cs cu tx n
def Rm (lim : Nat × Nat) (zz kk : Nat) : Prop := (zz + 60000 ≤ lim.1 ∧ 1100000 ≤ lim.2) ∧ kk < 512
/-- what a question of the reference may change -/
def Sc (K M' : MT) : Prop := ∀ r i, ¬ (9 ≤ r ∧ r ≤ 13) → r ≠ 22 → ¬ (r = 0 ∧ (i = 0 ∨ i = 17 ∨ i = 20 ∨ i = 21)) → M' r i = K r i
section LAWI
variable {H H' h h1 : AHp} {A : Nat → Prop} {c m o sc L : Nat} {xs : Nat → Int32} {zz kk kk' t b t2 b2 : Nat} {na na2 : Nat → Nat} {K K' K2 M' : MT} {T T2 : Tr} {N N2 : Nat} {W W2 : Int} {F : Nat} {FL : Nat → List SP} {NB : Nat → Int32} {fa : Nat → Nat} {nf Cs : Nat} {cu : Nat → Nat} {tx n : Nat}
theorem Sc.thn {k : Int32} : Sc K (thn K k) := fun r i _ _ h => up2_ne (fun z => h ⟨z.1, Or.inl z.2⟩)
theorem Sc.refl : Sc K K := fun _ _ _ _ _ => rfl
theorem Sc.trans (s : Sc K K') (s2 : Sc K' M') : Sc K M' := fun r i a b c => (s2 r i a b c).trans (s r i a b c)
theorem Sc.row (s : PRow K M') : Sc K M' := fun r i a b c => s r i (by omega) (fun z => c ⟨z.1, Or.inr (Or.inl z.2)⟩)
theorem Sc.cov (s : PCov K M') : Sc K M' := fun r i a b c => s r i (by omega)
theorem Sc.sch (s : PSch K M') : Sc K M' := fun r i a b c => s r i (by omega) (by omega) (fun z => c ⟨z.1, Or.inr (Or.inl z.2)⟩)
theorem Sc.e22 (s : E22 K M') : Sc K M' := fun r i a b c => s r i b
theorem Sc.m20 {v : Int32} : Sc K (up2 K 0 20 v) := fun r i _ _ h => up2_ne (fun z => h ⟨z.1, Or.inr (Or.inr (Or.inl z.2))⟩)
theorem Sc.m21 {v : Int32} : Sc K (up2 K 0 21 v) := fun r i _ _ h => up2_ne (fun z => h ⟨z.1, Or.inr (Or.inr (Or.inr z.2))⟩)
theorem TabA.kp (q : TabA H c m) (k : Keep H H' A) (e0 : hP H' c 0 = hP H c 0) (hA : ∀ a, A a → inR m a ∨ hk H a ≠ 8) : TabA H' c m := by
  obtain ⟨a, t1, t2, t3, t4, t5, t6⟩ := q
  have ka := k.2 a t2
  have nA : ¬ A a := fun z => (hA a z).elim t3 (fun y => y t4)
  exact ⟨a, e0.trans t1, Nat.lt_of_lt_of_le t2 k.1, t3, ka.1.trans t4, ka.2.1.trans t5, fun i hi => by rw [(ka.2.2 nA).1]; exact t6 i hi⟩
theorem TX.kp (q : TX H c tx m K n) (k : Keep H H' A) (e0 : hP H' c 0 = hP H c 0) (e4 : hP H' c 4 = hP H c 4) (e5 : hI H' c 5 = hI H c 5) (hA : ∀ a, A a → inR m a ∨ hk H a ≠ 8) (h35 : K' 0 35 = K 0 35) (h23 : ∀ i, K' 23 i = K 23 i) : TX H' c tx m K' n := by
  obtain ⟨t1, t2, t3, t4, t5, t6, t7, t8, t9, t10⟩ := q
  have ka := k.2 tx t2
  have nA : ¬ A tx := fun z => (hA tx z).elim t3 (fun y => y t4)
  refine ⟨e4.trans t1, Nat.lt_of_lt_of_le t2 k.1, t3, ka.1.trans t4, ka.2.1.trans t5, by rw [e0]; exact t6, t7, e5.trans t8, h35.trans t9, fun i hi => ?_⟩
  rw [(ka.2.2 nA).1, h23]; exact t10 i hi
theorem SVF.kp (S : SVF H c t b na T K kk) (k : Keep H H' A) (e7 : hP H' c 7 = hP H c 7) (hA : ∀ a, A a → ownB t b na (fun i => i ∈ ino T) a ∨ ¬ (hk H a = 12 ∨ hk H a = 5 ∨ hk H a = 2)) (hn : ∀ a, ownB t2 b2 na2 (fun i => i ∈ ino T2) a → ownB t b na (fun i => i ∈ ino T) a ∨ hsz H ≤ a) (h42 : K' 0 42 = K 0 42) (h27 : ∀ r i, 27 ≤ r → r ≤ 35 → K' r i = K r i) (hkk : kk ≤ kk') : SVF H' c t2 b2 na2 T2 K' kk' := by
  rcases S with ⟨s1, s2⟩ | ⟨s1, t', b', na', K1, T', N', W', s2, s3, s4, s5, s6, s7⟩
  · exact Or.inl ⟨h42.trans s1, e7.trans s2⟩
  · refine Or.inr ⟨h42.trans s1, t', b', na', K1, T', N', W', e7.trans s2, s3.keep k (fun a za zo => ?_), ⟨s4.1, by omega⟩, fun a z zo => ?_, fun r i h1 h2 h3 h4 => ?_, fun i hi => ?_⟩
    · have old := s3.old zo
      rcases hA a za with y | y
      · exact s5 a y zo
      · exact y old.2
    · have old := s3.old zo
      rcases hn a z with y | y
      · exact s5 a y zo
      · omega
    · rw [h27 r i h1 h2]; exact s6 r i h1 h2 h3 h4
    · rw [h27 34 i (by decide) (by decide)]; exact s7 i hi
theorem LW.oB (P : LW H c m o sc L xs zz kk t b na K T N W F FL NB fa nf Cs cu tx n) {a : Nat} (ha : ownB t b na (fun i => i ∈ ino T) a) : a < hsz H ∧ (hk H a = 12 ∨ hk H a = 5 ∨ hk H a = 2) := P.1.rt.old ha
theorem LW.rk (P : LW H c m o sc L xs zz kk t b na K T N W F FL NB fa nf Cs cu tx n) {a : Nat} (ha : inR m a) : hk H a = 7 ∨ hk H a = 8 ∨ hk H a = 9 := P.2.2.1.kind ha
theorem LW.ok (P : LW H c m o sc L xs zz kk t b na K T N W F FL NB fa nf Cs cu tx n) : OuA H o := P.2.2.2.1.2.2.2.2.2.2
theorem LW.nR (P : LW H c m o sc L xs zz kk t b na K T N W F FL NB fa nf Cs cu tx n) : ¬ inR m o := fun z => by
  have h1 := P.rk z; have h2 := P.ok.2.1
  rw [h2] at h1; omega
theorem LW.oR (P : LW H c m o sc L xs zz kk t b na K T N W F FL NB fa nf Cs cu tx n) {a : Nat} (ha : ownB t b na (fun i => i ∈ ino T) a) : ¬ inR m a := fun z => by
  have h1 := P.rk z; have h2 := (P.oB ha).2; omega
set_option maxRecDepth 8000 in
/-- a change of the tree, and of what the reference holds of it -/
theorem LW.step (P : LW H c m o sc L xs zz kk t b na K T N W F FL NB fa nf Cs cu tx n) (k : Keep H H' A) (hA : ∀ a, A a → inR m a ∨ a = o ∨ ownB t b na (fun i => i ∈ ino T) a) (O : RO H' c t b na2 K2 T2 N2 W2) (r : RefAt H' m K2) (s : Sm N K K2) (hN : N ≤ N2) (hn : ∀ a, ownB t b na2 (fun i => i ∈ ino T2) a → ownB t b na (fun i => i ∈ ino T) a ∨ hsz H ≤ a) (hW : 999 ≤ W2 ∧ W2 ≤ W + 1000) (hz : hsz H' ≤ hsz H + 110) (hu : hsu H' ≤ hsu H + 1800) : LW H' c m o sc L xs zz (kk + 1) t b na2 K2 T2 N2 W2 F FL NB fa nf Cs cu tx n := by
  have kd : ∀ a, A a → inR m a ∨ (hk H a = 13 ∨ hk H a = 12 ∨ hk H a = 5 ∨ hk H a = 2) := fun a za => by
    rcases hA a za with y | y | y
    · exact Or.inl y
    · rw [y]; exact Or.inr (Or.inl P.ok.2.1)
    · exact Or.inr (Or.inr (P.oB y).2)
  have kd2 : ∀ a, A a → hk H a = 7 ∨ hk H a = 8 ∨ hk H a = 9 ∨ hk H a = 13 ∨ hk H a = 12 ∨ hk H a = 5 ∨ hk H a = 2 := fun a za => by
    rcases kd a za with y | y
    · have := P.rk y; omega
    · omega
  have hc := P.1.1.1
  have nc : ¬ A c := fun z => by have := kd2 c z; omega
  have cc := (k.2 c P.2.1).2.2 nc
  have pc : ∀ j, hP H' c j = hP H c j := fun j => by rw [cc.2.1]
  have ic : ∀ j, hI H' c j = hI H c j := fun j => by rw [cc.1]
  obtain ⟨p1, p2, p3, ⟨l1, l2, l3, l4, l5, l6, l7⟩, p5, p6, p7⟩ := P
  refine ⟨O, Nat.lt_of_lt_of_le p2 k.1, r, ⟨l1.kp k (pc 0) (fun a za => ?_), l2.keep k (ic 2) (pc 1) (fun a za => ?_), l3.congr (s.2.1 24 (by omega)) (fun a j h1 h2 => s.1 a j h1 (by omega) (by omega)), l4.keep k (pc 3) (fun a za => ?_) hN (Nat.le_refl _) (fun i => s.1 24 i (by decide) (by decide) (by decide)) (fun i => s.1 25 i (by decide) (by decide) (by decide)) (fun i => s.1 26 i (by decide) (by decide) (by decide)) s.2.2, l5.kp k (pc 0) (pc 4) (ic 5) (fun a za => ?_) (s.2.1 35 (by omega)) (fun i => s.1 23 i (by decide) (by decide) (by decide)), l6.keep k (fun z => ?_), l7.keep k⟩, p5.kp k (pc 7) (fun a za => ?_) hn (s.2.1 42 (by omega)) (fun r i h1 h2 => s.1 r i (by omega) h2 (by omega)) (by omega), ⟨hW.1, by omega⟩, by omega, by omega⟩
  · rcases kd a za with y | y
    · exact Or.inl y
    · exact Or.inr (by omega)
  · have := kd2 a za; omega
  · have := kd2 a za; omega
  · rcases kd a za with y | y
    · exact Or.inl y
    · exact Or.inr (by omega)
  · have := kd2 sc z; have := l6.2.1; omega
  · rcases hA a za with y | y | y
    · have := p3.kind y; exact Or.inr (by omega)
    · have := l7.2.1; rw [y]; exact Or.inr (by omega)
    · exact Or.inl y
/-- a question -/
theorem LW.query (P : LW H c m o sc L xs zz kk t b na K T N W F FL NB fa nf Cs cu tx n) (k : Keep H H' (fun a => a = o ∨ inR m a)) (r : RefAt H' m M') (s : Sc K M') (hz : hsz H' ≤ hsz H + 110) (hu : hsu H' ≤ hsu H + 1800) : LW H' c m o sc L xs zz (kk + 1) t b na (mixM M' K) T N W F FL NB fa nf Cs cu tx n := by
  have no := P.1.notO P.ok.2.1
  have nr := P.1.notR P.2.2.1
  have O1 : RO H' c t b na K T N W := P.1.keep P.2.1 k (fun z => z.elim (fun z => no.1 z.symm) nr.1) (fun z => z.elim (fun z => no.2.1 z.symm) nr.2.1) (fun a z => z.elim (fun z => by rw [z]; exact no.2.2) (nr.2.2 a))
  have e : ∀ r i, r < 36 → ¬ (9 ≤ r ∧ r ≤ 13) → r ≠ 22 → ¬ (r = 0 ∧ (i = 0 ∨ i = 17 ∨ i = 20 ∨ i = 21)) → mixM M' K r i = K r i := fun r i h h1 h2 h3 => by rw [mixM_lo h]; exact s r i h1 h2 h3
  refine P.step k (fun a z => z.elim (fun z => Or.inr (Or.inl z)) Or.inl) (O1.mix (fun r i h1 h2 => s r i (by omega) (by omega) (by omega)) (fun i h1 h2 => s 0 i (by omega) (by omega) (by omega))) r.mix ⟨fun r i h1 h2 h3 => e r i (by omega) (by omega) h3 (by omega), fun i hi => e 0 i (by decide) (by decide) (by decide) (by omega), fun i _ => ⟨e 1 i (by decide) (by decide) (by decide) (by omega), e 2 i (by decide) (by decide) (by decide) (by omega)⟩⟩ (Nat.le_refl _) (fun a z => Or.inl z) ⟨P.2.2.2.2.2.1.1, by omega⟩ hz hu
end LAWI
/-! ===== both sides of a call ===== -/
def Shs (h1 : AHp) (c m o sc L : Nat) (xs : Nat → Int32) : Prop := hk h1 c = 6 ∧ ScA h1 sc L xs ∧ OuA h1 o ∧ hk h1 m = 7
def AftN (lim : Nat × Nat) (d c m o sc L : Nat) (xs : Nat → Int32) (zz kk jM : Nat) (aM : List AV) (h1 : AHp) (y : Int32) : Prop :=
  ∀ (v : Int64) (R : RT) (X : XT), (∀ H', LI H' c m o sc L xs zz kk → hI H' m 0 = 0 → hJ H' o 0 = v → R (some (vi y)) H') → WM lim d jM (vr (some m) :: aM) (sJ h1 o 0 v) R X
def AftX (lim : Nat × Nat) (d c m o sc L : Nat) (xs : Nat → Int32) (zz kk jM : Nat) (aM : List AV) (h1 : AHp) (k : Int32) : Prop :=
  ∀ (R : RT) (X : XT), (∀ y H', LI H' c m o sc L xs zz kk → hI H' m 0 = k → R (some (vi y)) H') → WM lim d jM (vr (some m) :: aM) h1 R X
def Aft0 (lim : Nat × Nat) (d c m o sc L : Nat) (xs : Nat → Int32) (zz kk jM : Nat) (aM : List AV) (h1 : AHp) (y : Int32) : Prop :=
  ∀ (R : RT) (X : XT), (∀ H', LI H' c m o sc L xs zz kk → R (some (vi y)) H') → WM lim d jM (vr (some m) :: aM) h1 R X
def XCo : List (Nat × Int32) → (Int32 → Prop) → Nat → Prop
  | [], _, _ => False
  | [p], P, n => n = p.1 ∧ P p.2
  | p :: q :: r, P, n => (n = p.1 ∧ P p.2) ∨ XCo (q :: r) P n
theorem XCo.mono {P Q : Int32 → Prop} (h : ∀ k, P k → Q k) : ∀ {l : List (Nat × Int32)} {n : Nat}, XCo l P n → XCo l Q n
  | [], _, q => q
  | [p], _, q => ⟨q.1, h _ q.2⟩
  | p :: r :: l, _, q => q.elim (fun q => Or.inl ⟨q.1, h _ q.2⟩) (fun q => Or.inr (XCo.mono h q))
/-- a call that may throw, of the class, and the same of the reference -/
def Two (lim : Nat × Nat) (dI dM c m o sc L : Nat) (xs : Nat → Int32) (zz kk : Nat) (h : AHp) (jI jM : Nat) (aM : List AV) (cod : List (Nat × Int32)) : Prop :=
  ∀ (R : RT) (X : XT), (∀ y h1, AftN lim dM c m o sc L xs zz kk jM aM h1 y → Shs h1 c m o sc L xs → R (some (vi y)) h1) → (∀ n h1, XCo cod (fun k => AftX lim dM c m o sc L xs zz kk jM aM h1 k ∧ Shs h1 c m o sc L xs) n → X n h1) → WM lim dI jI (vr (some c) :: aM) h R X
def Two0 (lim : Nat × Nat) (dI dM c m o sc L : Nat) (xs : Nat → Int32) (zz kk : Nat) (h : AHp) (jI jM : Nat) (aM : List AV) : Prop :=
  ∀ (R : RT) (X : XT), (∀ y h1, Aft0 lim dM c m o sc L xs zz kk jM aM h1 y → Shs h1 c m o sc L xs → R (some (vi y)) h1) → WM lim dI jI (vr (some c) :: aM) h R X
section BOTH
variable {h h1 : AHp} {A : Nat → Prop} {lim : Nat × Nat} {d jM c m o sc L : Nat} {aM : List AV} {xs : Nat → Int32} {zz kk t b : Nat} {na : Nat → Nat} {K M : MT} {T : Tr} {N : Nat} {W : Int} {F : Nat} {FL : Nat → List SP} {NB : Nat → Int32} {fa : Nat → Nat} {nf Cs : Nat} {cu : Nat → Nat} {tx n : Nat} {y k : Int32} {cod : List (Nat × Int32)} {X : XT}
theorem args_m (ha : aM.map (shV m) = aM) : vr (some m) :: aM = (vr (some 0) :: aM).map (shV m) := by
  rw [List.map_cons, ha]
  show _ = vr (some (0 + m)) :: aM
  rw [Nat.zero_add]
/-- the reference's run behind the class's, an answer -/
theorem aftN_of {G : MT → Prop} (r1 : RefAt h1 m K) (ho : hk h1 o = 13) (hm : m ≤ lim.1) (ha : aM.map (shV m) = aM) (hj : mown jM = 7) (w : ∀ z Q, (∀ M', G M' → M' 0 0 = 0 → Q (some (vi y)) M') → WQ z d jM (vr (some 0) :: aM) K Q) (g : ∀ M' H', G M' → RefAt H' m M' → Keep h1 H' (fun a => a = o ∨ inR m a) → hsz H' = hsz h1 → hsu H' = hsu h1 → LI H' c m o sc L xs zz kk) : AftN lim d c m o sc L xs zz kk jM aM h1 y := by
  intro v R X q
  have nR : ¬ inR m o := fun z => by have := r1.kind z; omega
  have r2 : RefAt (sJ h1 o 0 v) m K := r1.keep sJ_keep (fun a e => by rw [e]; exact nR)
  rw [args_m ha]
  refine ref_call (Q := fun v M' => v = some (vi y) ∧ G M' ∧ M' 0 0 = 0) r2 hj hm (w _ _ (fun M' s e => ⟨rfl, s, e⟩)) (fun v' M' H' qq r' f => ?_)
  obtain ⟨rfl, s, e⟩ := qq
  refine q H' (g M' H' s r' ((sJ_keep.mono (fun a z => Or.inl z)).trans (f.keep.mono (fun a z => Or.inr z))) f.1 f.2.1) ?_ ?_
  · have := (r'.2 0 (by decide)).2.2.1 0
    rw [Nat.zero_add] at this; rw [this, e]
  · rw [(f.2.2.2.2 o nR).2.2]
    exact if_pos ⟨rfl, rfl⟩
theorem aftX_of {G : MT → Prop} (r1 : RefAt h1 m K) (hm : m ≤ lim.1) (ha : aM.map (shV m) = aM) (hj : mown jM = 7) (w : ∀ z Q, (∀ y M', G M' → M' 0 0 = k → Q (some (vi y)) M') → WQ z d jM (vr (some 0) :: aM) K Q) (g : ∀ M' H', G M' → RefAt H' m M' → Keep h1 H' (fun a => a = o ∨ inR m a) → hsz H' = hsz h1 → hsu H' = hsu h1 → LI H' c m o sc L xs zz kk) : AftX lim d c m o sc L xs zz kk jM aM h1 k := by
  intro R X q
  rw [args_m ha]
  refine ref_call (Q := fun v M' => ∃ y, v = some (vi y) ∧ G M' ∧ M' 0 0 = k) r1 hj hm (w _ _ (fun y M' s e => ⟨y, rfl, s, e⟩)) (fun v' M' H' qq r' f => ?_)
  obtain ⟨y, rfl, s, e⟩ := qq
  refine q y H' (g M' H' s r' (f.keep.mono (fun a z => Or.inr z)) f.1 f.2.1) ?_
  have := (r'.2 0 (by decide)).2.2.1 0
  rw [Nat.zero_add] at this; rw [this, e]
theorem aft0_of {G : MT → Prop} (r1 : RefAt h1 m K) (hm : m ≤ lim.1) (ha : aM.map (shV m) = aM) (hj : mown jM = 7) (w : ∀ z Q, (∀ M', G M' → Q (some (vi y)) M') → WQ z d jM (vr (some 0) :: aM) K Q) (g : ∀ M' H', G M' → RefAt H' m M' → Keep h1 H' (fun a => a = o ∨ inR m a) → hsz H' = hsz h1 → hsu H' = hsu h1 → LI H' c m o sc L xs zz kk) : Aft0 lim d c m o sc L xs zz kk jM aM h1 y := by
  intro R X q
  rw [args_m ha]
  refine ref_call (Q := fun v M' => v = some (vi y) ∧ G M') r1 hj hm (w _ _ (fun M' s => ⟨rfl, s⟩)) (fun v' M' H' qq r' f => ?_)
  obtain ⟨rfl, s⟩ := qq
  exact q H' (g M' H' s r' (f.keep.mono (fun a z => Or.inr z)) f.1 f.2.1)
theorem LW.mle (P : LW h c m o sc L xs zz kk t b na K T N W F FL NB fa nf Cs cu tx n) (hr : Rm lim zz kk) : m ≤ lim.1 := by
  have h1 := P.2.2.1.1
  have h2 := P.2.2.2.2.2.2.1
  have h3 := hr.1.1
  have h4 := hr.2
  omega
theorem LW.sh (P : LW h c m o sc L xs zz kk t b na K T N W F FL NB fa nf Cs cu tx n) : Shs h c m o sc L xs := by
  have := (P.2.2.1.2 0 (by decide)).1
  rw [Nat.zero_add] at this
  exact ⟨P.1.1.1, P.2.2.2.1.2.2.2.2.2.1, P.ok, this⟩
/-- what is shared stays -/
theorem LW.shk (P : LW h c m o sc L xs zz kk t b na K T N W F FL NB fa nf Cs cu tx n) (k : Keep h h1 A) (hA : ¬ A sc) : Shs h1 c m o sc L xs := by
  have s := P.sh
  have hm : m < hsz h := by have := P.2.2.1.1; omega
  exact ⟨(k.2 c P.2.1).1.trans s.1, s.2.1.keep k hA, s.2.2.1.keep k, (k.2 m hm).1.trans s.2.2.2⟩
/-- a question: an answer of the class, its heap as it was -/
theorem LW.aN (P : LW h c m o sc L xs zz kk t b na K T N W F FL NB fa nf Cs cu tx n) (hr : Rm lim zz kk) (ha : aM.map (shV m) = aM) (hj : mown jM = 7) (w : ∀ z Q, (∀ M', Sc K M' → M' 0 0 = 0 → Q (some (vi y)) M') → WQ z d jM (vr (some 0) :: aM) K Q) : AftN lim d c m o sc L xs zz (kk + 1) jM aM h y :=
  aftN_of P.2.2.1 P.ok.2.1 (P.mle hr) ha hj w (fun M' H' s r k z u => ⟨t, b, na, _, T, N, W, F, FL, NB, fa, nf, Cs, cu, tx, n, P.query k r s (by omega) (by omega)⟩)
theorem LW.a0 (P : LW h c m o sc L xs zz kk t b na K T N W F FL NB fa nf Cs cu tx n) (hr : Rm lim zz kk) (ha : aM.map (shV m) = aM) (hj : mown jM = 7) (w : ∀ z Q, (∀ M', Sc K M' → Q (some (vi y)) M') → WQ z d jM (vr (some 0) :: aM) K Q) : Aft0 lim d c m o sc L xs zz (kk + 1) jM aM h y :=
  aft0_of P.2.2.1 (P.mle hr) ha hj w (fun M' H' s r k z u => ⟨t, b, na, _, T, N, W, F, FL, NB, fa, nf, Cs, cu, tx, n, P.query k r s (by omega) (by omega)⟩)
/-- a question that throws -/
theorem LW.tX (P : LW h c m o sc L xs zz kk t b na K T N W F FL NB fa nf Cs cu tx n) (hr : Rm lim zz kk) {e : Nat} (ha : aM.map (shV m) = aM) (hj : mown jM = 7) (w : ∀ z Q, (∀ y M', Sc K M' → M' 0 0 = k → Q (some (vi y)) M') → WQ z d jM (vr (some 0) :: aM) K Q) (qx : ∀ n h1, XCo cod (fun k => AftX lim d c m o sc L xs zz (kk + 1) jM aM h1 k ∧ Shs h1 c m o sc L xs) n → X n h1) (he : ∀ Pr : Int32 → Prop, Pr k → XCo cod Pr e) : thr lim X e h := by
  have b1 := P.2.2.2.2.2.2.1
  have b2 := P.2.2.2.2.2.2.2
  have b3 := hr.1
  have b4 := hr.2
  refine ⟨by omega, by omega, fun s u s1 s2 u1 u2 => qx e _ (he _ ⟨?_, P.shk (gr_keep (A := fun _ => False) s1) (fun z => z)⟩)⟩
  have kg : Keep h (gr h s u) (fun _ => False) := gr_keep s1
  refine aftX_of (P.2.2.1.keep kg (fun a z => z.elim)) (P.mle hr) ha hj w (fun M' H' sc' r k z1 z2 => ⟨t, b, na, _, T, N, W, F, FL, NB, fa, nf, Cs, cu, tx, n, P.query ((kg.mono (fun a z => z.elim)).trans k) r sc' ?_ ?_⟩)
  · have : hsz (gr h s u) = s := rfl
    omega
  · have : hsu (gr h s u) = u := rfl
    omega
end BOTH
