/-! ===== copies of a tree: the class ===== -/
def rtO : Tr → Option Nat
  | .leaf _ => none
  | .branch n _ _ => some n
/-- a node that has nothing yet -/
def bareM (K : MT) (n : Nat) : MT := up2 (up2 (up2 (up2 (up2 (up2 K 5 n (-1)) 6 n (-1)) 7 n (-1)) 40 n (-1)) 41 n (-1)) 42 n 0
def TS (h g : AHp) (t b : Nat) (na : Nat → Nat) (D : Nat → Prop) (K : MT) (P : List Nat) (cnt : Nat) : Prop :=
  CV g g t b na D K ∧ CH K P ∧ (∀ i, i < 500 → (D i → hP g b i = some (na i)) ∧ (¬ D i → hP g b i = none)) ∧ Keep h g (fun _ => False) ∧ (hsz h ≤ t ∧ hsz h ≤ b ∧ ∀ i, D i → hsz h ≤ na i) ∧ (hsz g ≤ hsz h + 2 + cnt ∧ hsu g ≤ hsu h + 510 + 12 * cnt) ∧ (∀ x, x ∈ P → D x) ∧ P.Nodup
section TAKE
variable {h g g' : AHp} {t b t' b' : Nat} {na na' : Nat → Nat} {D D' : Nat → Prop} {K K' K'' : MT} {T : Tr} {P P' : List Nat} {cnt : Nat} {lim : Nat × Nat} {d : Nat} {R : RT} {X : XT}
theorem rtO_root {tt : Tr} {i : Nat} (e : rtO tt = some i) : rootOf tt = nI i ∧ i ∈ ino tt := by
  cases tt with
  | leaf _ => cases e
  | branch n l r =>
    have e : n = i := Option.some.inj e
    subst e
    exact ⟨rfl, List.mem_append_right _ List.mem_cons_self⟩
theorem rtO_no {tt : Tr} {i : Nat} (e : rtO tt ≠ some i) (hi : i < 500) (hD : ∀ x, x ∈ ino tt → x < 500) : rootOf tt ≠ nI i := by
  cases tt with
  | leaf _ => exact fun c => nI_m1 (by omega) c.symm
  | branch n l r => exact fun c => e (by rw [show rtO (.branch n l r) = some n from rfl, nI_inj (hD n (List.mem_append_right _ List.mem_cons_self)) hi c])
theorem TS.step (S : TS h g t' b' na' D K' P cnt) (V : CV g g' t' b' na' D K'') (C : CH K'' P') (hP' : ∀ x, x ∈ P' → D x) (hn : P'.Nodup) : TS h g' t' b' na' D K'' P' cnt := by
  obtain ⟨s1, s2, s3, s4, s5, s6, s7, s8⟩ := S
  have fr := V.2.2.2.2.2
  have nb : ¬ own t' na' D b' := fun c => by
    rcases c with c | ⟨j, hj, c⟩
    · have h1 := s1.1.1; rw [← c, s1.1.2.2.2.1] at h1; cases h1
    · exact s1.nb hj c.symm
  refine ⟨V.rebase, C, fun i hi => ?_, fr.kp s4 (fun x hx => Or.inl ?_), s5, by rw [fr.1, fr.2.1]; exact s6, hP', hn⟩
  · rw [(fr.2.2.2.2 b' nb).2.1]; exact s3 i hi
  · rcases hx with e | ⟨j, hj, e⟩
    · rw [e]; exact s5.1
    · rw [e]; exact s5.2.2 j hj
theorem TS.dom (S : TS h g t' b' na' D K' P cnt) (e : ∀ i, D i ↔ D' i) : TS h g t' b' na' D' K' P cnt := by
  have : D = D' := funext fun i => propext (e i)
  rw [← this]; exact S
/-- a node more -/
theorem TS.new {n : Nat} {X : AHp} (S : TS h g t' b' na' D K' P cnt) (hn : ¬ D n) (hn5 : n < 500) (z : hsz X = hsz g + 1) (u : hsu X = hsu g + 12) (o : ∀ a, a ≠ hsz g → hk X a = hk g a ∧ hLen X a = hLen g a ∧ hI X a = hI g a ∧ (a ≠ b' → hP X a = hP g a) ∧ hJ X a = hJ g a) (ob : ∀ i, hP X b' i = if i = n then some (hsz g) else hP g b' i) (kz : hk X (hsz g) = 2) (pz : ∀ k, hP X (hsz g) k = none) (iz : hI X (hsz g) 0 = nI n ∧ hI X (hsz g) 1 = K' 1 n ∧ hI X (hsz g) 2 = K' 2 n ∧ hI X (hsz g) 3 = K' 3 n ∧ hI X (hsz g) 4 = K' 4 n ∧ hI X (hsz g) 5 = K' 8 n ∧ hI X (hsz g) 11 = 0) : TS h X t' b' (up1 na' n (hsz g)) (fun i => D i ∨ i = n) (bareM K' n) P (cnt + 1) := by
  obtain ⟨s1, s2, s3, s4, s5, s6, s7, s8⟩ := S
  have tz := s1.1.2.1
  have bz := s1.1.2.2.2.2.2
  have bne : ∀ r i, i ≠ n → bareM K' n r i = K' r i := fun r i hi => by
    unfold bareM; rw [up2_ne (by omega), up2_ne (by omega), up2_ne (by omega), up2_ne (by omega), up2_ne (by omega), up2_ne (by omega)]
  have bro : ∀ r i, r ≠ 5 → r ≠ 6 → r ≠ 7 → r ≠ 40 → r ≠ 41 → r ≠ 42 → bareM K' n r i = K' r i := fun r i h1 h2 h3 h4 h5 h6 => by
    unfold bareM; rw [up2_ne (by omega), up2_ne (by omega), up2_ne (by omega), up2_ne (by omega), up2_ne (by omega), up2_ne (by omega)]
  have V1 : CV X X t' b' (up1 na' n (hsz g)) (fun i => D i ∨ i = n) (bareM K' n) := by
    refine s1.new hn hn5 z (fun a ha => ⟨(o a (by omega)).1, (o a (by omega)).2.1, (o a (by omega)).2.2.1⟩) (fun a ha hb => (o a (by omega)).2.2.2.1 hb) kz iz.1 (fun k hk => ?_) (fun k hk => ⟨pz k, ?_⟩) bne (fun i => ⟨bro 0 i (by omega) (by omega) (by omega) (by omega) (by omega) (by omega), bro 43 i (by omega) (by omega) (by omega) (by omega) (by omega) (by omega)⟩)
    · rcases nrI_v hk with ⟨e1, e2⟩ | ⟨e1, e2⟩ | ⟨e1, e2⟩ | ⟨e1, e2⟩ | ⟨e1, e2⟩ | ⟨e1, e2⟩
      · rw [e2, e1, bro 1 n (by omega) (by omega) (by omega) (by omega) (by omega) (by omega)]; exact iz.2.1
      · rw [e2, e1, bro 2 n (by omega) (by omega) (by omega) (by omega) (by omega) (by omega)]; exact iz.2.2.1
      · rw [e2, e1, bro 3 n (by omega) (by omega) (by omega) (by omega) (by omega) (by omega)]; exact iz.2.2.2.1
      · rw [e2, e1, bro 4 n (by omega) (by omega) (by omega) (by omega) (by omega) (by omega)]; exact iz.2.2.2.2.1
      · rw [e2, e1, bro 8 n (by omega) (by omega) (by omega) (by omega) (by omega) (by omega)]; exact iz.2.2.2.2.2.1
      · rw [e2, e1]; unfold bareM; rw [up2_at]; exact iz.2.2.2.2.2.2
    · rcases nrP_v hk with ⟨e1, e2⟩ | ⟨e1, e2⟩ | ⟨e1, e2⟩ | ⟨e1, e2⟩ | ⟨e1, e2⟩
      · rw [e2]; unfold bareM; rw [up2_ne (by omega), up2_ne (by omega), up2_ne (by omega), up2_at]
      · rw [e2]; unfold bareM; rw [up2_ne (by omega), up2_ne (by omega), up2_ne (by omega), up2_ne (by omega), up2_ne (by omega), up2_at]
      · rw [e2]; unfold bareM; rw [up2_ne (by omega), up2_ne (by omega), up2_ne (by omega), up2_ne (by omega), up2_at]
      · rw [e2]; unfold bareM; rw [up2_ne (by omega), up2_ne (by omega), up2_at]
      · rw [e2]; unfold bareM; rw [up2_ne (by omega), up2_at]
  refine ⟨V1, s2.congr (fun i hi => ?_) (bro 43 0 (by omega) (by omega) (by omega) (by omega) (by omega) (by omega)) (bro 43 1 (by omega) (by omega) (by omega) (by omega) (by omega) (by omega)), fun i hi => ?_, ⟨by have := s4.1; omega, fun a ha => ?_⟩, ⟨s5.1, s5.2.1, fun i hi => ?_⟩, ⟨by omega, by omega⟩, fun x hx => Or.inl (s7 x hx), s8⟩
  · have : i ≠ n := fun e => hn (e ▸ s7 i hi)
    exact ⟨bne 40 i this, bne 41 i this⟩
  · rw [ob]
    by_cases e : i = n
    · rw [if_pos e]; exact ⟨fun _ => by rw [e, up1_on], fun q => (q (Or.inr e)).elim⟩
    · rw [if_neg e]
      refine ⟨fun q => ?_, fun q => (s3 i hi).2 (fun z => q (Or.inl z))⟩
      rcases q with q | q
      · rw [up1_off _ e]; exact (s3 i hi).1 q
      · exact (e q).elim
  · have kk := s4.2 a ha
    have az : a ≠ hsz g := by have := s4.1; omega
    have oo := o a az
    refine ⟨oo.1.trans kk.1, oo.2.1.trans kk.2.1, fun q => ?_⟩
    have cc := kk.2.2 q
    exact ⟨oo.2.2.1.trans cc.1, (oo.2.2.2.1 (by have := s5.2.1; omega)).trans cc.2.1, oo.2.2.2.2.trans cc.2.2⟩
  · rcases hi with hi | hi
    · rw [up1_off _ (show i ≠ n from fun e => hn (e ▸ hi))]; exact s5.2.2 i hi
    · rw [hi, up1_on]; exact s4.1
theorem hLen_sI {h : AHp} {a k : Nat} {v : Int32} : hLen (sI h a k v) = hLen h := rfl
theorem hJ_sI {h : AHp} {a k : Nat} {v : Int32} : hJ (sI h a k v) = hJ h := rfl
theorem hsz_sI {h : AHp} {a k : Nat} {v : Int32} : hsz (sI h a k v) = hsz h := rfl
theorem hsu_sI {h : AHp} {a k : Nat} {v : Int32} : hsu (sI h a k v) = hsu h := rfl
theorem hI_sIo {h : AHp} {a k x : Nat} {v : Int32} (hx : x ≠ a) : hI (sI h a k v) x = hI h x := up2_off _ hx
/-- two ints of a cell written -/
def Sx2 (Y Z : AHp) (z : Nat) (v w : Int32) : Prop := (hk Z = hk Y ∧ hLen Z = hLen Y ∧ hP Z = hP Y ∧ hJ Z = hJ Y ∧ hsz Z = hsz Y ∧ hsu Z = hsu Y) ∧ (∀ a, a ≠ z → hI Z a = hI Y a) ∧ (∀ k, k ≠ 4 → k ≠ 5 → hI Z z k = hI Y z k) ∧ hI Z z 4 = v ∧ hI Z z 5 = w
theorem Sx2_ok {Y : AHp} {z : Nat} {v w : Int32} : Sx2 Y (sI (sI Y z 4 v) z 5 w) z v w := by
  refine ⟨⟨by rw [hk_sI, hk_sI], by rw [hLen_sI, hLen_sI], by rw [hP_sI, hP_sI], by rw [hJ_sI, hJ_sI], by rw [hsz_sI, hsz_sI], by rw [hsu_sI, hsu_sI]⟩, fun a ha => by rw [hI_sIo ha, hI_sIo ha], fun k h1 h2 => by rw [hI_ne (by omega), hI_ne (by omega)], by rw [hI_ne (by omega), hI_at], hI_at⟩
/-- a pointer of a cell written -/
def Sy1 (Z G : AHp) (b n : Nat) (v : Option Nat) : Prop := (hk G = hk Z ∧ hLen G = hLen Z ∧ hI G = hI Z ∧ hJ G = hJ Z ∧ hsz G = hsz Z ∧ hsu G = hsu Z) ∧ (∀ a, a ≠ b → hP G a = hP Z a) ∧ ∀ i, hP G b i = if i = n then v else hP Z b i
theorem Sy1_ok {Z : AHp} {b n : Nat} {v : Option Nat} : Sy1 Z (sP Z b n v) b n v := by
  refine ⟨⟨hk_sP, hLen_sP, hI_sP, hJ_sP, hsz_sP, hsu_sP⟩, fun a ha => by rw [hP_sP, up2_offI ha], fun i => ?_⟩
  rw [hP_sP]
  by_cases e : i = n
  · rw [e, hPq_at, if_pos rfl]
  · rw [hPq_ne (fun z => e z.2), if_neg e]
theorem C_take (V : CV h h t b na (fun i => i ∈ ino T) K) (h8 : ∀ i, b01 (K 8 i)) (h4 : ∀ i, i ∈ ino T → b01 (K 4 i)) (hz : hsz h + 110 ≤ lim.1) (hu : hsu h + 1750 ≤ lim.2) : ∀ (tt : Tr) (up : Int32) (dep d : Nat) (g : AHp) (na' : Nat → Nat) (D : Nat → Prop) (K' : MT) (P : List Nat) (cnt : Nat) (R : RT), Enc K up tt → (∀ z, z ∈ ino tt → z ∈ ino T) → (ino tt).Nodup → (∀ z, z ∈ ino tt → ¬ D z) → dep + tht tt ≤ 40 → tht tt + 2 < d → cnt + (ino tt).length ≤ 100 → TS h g t' b' na' D K' P cnt → (∀ r i, i ∈ ino tt → 0 < r → r < 36 → K' r i = K r i) →
    (∀ g' na'' K'', TS h g' t' b' na'' (fun i => D i ∨ i ∈ ino tt) K'' (P ++ ino tt) (cnt + (ino tt).length) → (∀ r i, r < 36 → i < 500 → ¬ (r = 7 ∧ rtO tt = some i) → K'' r i = K' r i) → (∀ i, rtO tt = some i → K'' 7 i = -1) → K'' 43 2 = K' 43 2 → (∀ i, D i → na'' i = na' i) → R (some (vr (oa na'' (rootOf tt)))) g') → WM lim d j_Tr_takeOver [vr (some t'), vr (oa na (rootOf tt)), vi (nI dep)] g R X := by
  intro tt
  induction tt with
  | leaf u =>
    intro up dep d g na' D K' P cnt R _ _ _ _ _ _ _ S _ q
    refine B_Tr_takeOver_0 ?_
    rw [show rootOf (.leaf u) = (-1 : Int32) from rfl, oa_n, ifN_n]
    refine ⟨rfl, ?_⟩
    have := q g na' K' (by
      show TS h g t' b' na' (fun i => D i ∨ i ∈ []) K' (P ++ []) (cnt + 0)
      rw [List.append_nil]
      exact S.dom (fun i => ⟨Or.inl, fun z => z.elim id (fun z => by cases z)⟩)) (fun _ _ _ _ _ => rfl) (fun i e => by cases e) rfl (fun _ _ => rfl)
    rw [show rootOf (.leaf u) = (-1 : Int32) from rfl, oa_n] at this
    exact this
  | branch n l r ihl ihr =>
    intro up dep d g na' D K' P cnt R E hT nd hD hdep hd hc S hK q
    obtain ⟨e7, e5, e6, El, Er⟩ := E
    have hin : ino (.branch n l r : Tr) = ino l ++ n :: ino r := rfl
    have hnm : n ∈ ino (.branch n l r : Tr) := by rw [hin]; exact List.mem_append_right _ List.mem_cons_self
    have hlm : ∀ z, z ∈ ino l → z ∈ ino (.branch n l r : Tr) := fun z hz => by rw [hin]; exact List.mem_append_left _ hz
    have hrm : ∀ z, z ∈ ino r → z ∈ ino (.branch n l r : Tr) := fun z hz => by rw [hin]; exact List.mem_append_right _ (List.mem_cons_of_mem _ hz)
    have hnT := hT n hnm
    have n5 := V.lt hnT
    have nd' := nd
    rw [hin, List.nodup_append, List.nodup_cons] at nd'
    obtain ⟨ndl, ⟨nnr, ndr⟩, nd3⟩ := nd'
    have nnl : n ∉ ino l := fun z => nd3 n z n List.mem_cons_self rfl
    have hlr : ∀ z, z ∈ ino l → z ∉ ino r := fun z h1 h2 => nd3 z h1 z (List.mem_cons_of_mem _ h2) rfl
    have hlen : (ino (.branch n l r : Tr)).length = (ino l).length + ((ino r).length + 1) := by rw [hin, List.length_append]; rfl
    rw [hlen] at hc
    have htl : tht (.branch n l r : Tr) = 1 + max (tht l) (tht r) := rfl
    rw [htl] at hdep hd
    have lm1 : tht l ≤ max (tht l) (tht r) := Nat.le_max_left _ _
    have lm2 : tht r ≤ max (tht l) (tht r) := Nat.le_max_right _ _
    obtain ⟨s1, s2, s3, s4, s5, s6, s7, s8⟩ := S
    have S : TS h g t' b' na' D K' P cnt := ⟨s1, s2, s3, s4, s5, s6, s7, s8⟩
    have nz := (V.2.1 n hnT).2.1
    have hzg := s4.1
    -- the source's node, in a heap that keeps h
    have src : ∀ {gg : AHp}, Keep h gg (fun _ => False) → hk gg (na n) = 2 ∧ hI gg (na n) 0 = nI n ∧ hI gg (na n) 1 = K 1 n ∧ hI gg (na n) 2 = K 2 n ∧ hI gg (na n) 3 = K 3 n ∧ hI gg (na n) 4 = K 4 n ∧ hI gg (na n) 5 = K 8 n ∧ hP gg (na n) 7 = oa na (rootOf l) ∧ hP gg (na n) 8 = oa na (rootOf r) := by
      intro gg kk
      have k1 := kk.2 (na n) nz
      have c1 := k1.2.2 (fun z => z)
      rw [c1.1, c1.2.1]
      exact ⟨k1.1.trans (V.kn hnT), V.id hnT, V.lo hnT, V.hi hnT, V.we hnT, V.st hnT, V.re hnT, by rw [(V.le hnT).1, e5], by rw [(V.ri hnT).1, e6]⟩
    refine B_Tr_takeOver_0 ?_
    rw [show rootOf (.branch n l r) = nI n from rfl, oa_s n5, ifN_s, if_neg (by
      have : (40 : Int32).toInt = 40 := rfl
      rw [i_lt, nI_toInt (by omega), this]; omega)]
    have kw : Keep h (nw g 2 12) (fun _ => False) := s4.trans nw_keep
    obtain ⟨w0, w1, w2, w3, w4, -⟩ := src kw
    refine ⟨by omega, by omega, ?_⟩
    rw [onR_s]
    refine ⟨w0, ?_⟩
    rw [onR_s]
    refine ⟨w0, ?_⟩
    rw [onR_s]
    refine ⟨w0, ?_⟩
    rw [onR_s]
    refine ⟨w0, by omega, ?_⟩
    rw [w1, w2, w3, w4]
    refine C_init ?_
    have hX := newH_ok (g := g) (x := nI n) (l := K 1 n) (h := K 2 n) (w := K 3 n)
    generalize newH g (nI n) (K 1 n) (K 2 n) (K 3 n) = Y at hX ⊢
    obtain ⟨x1, x2, x3, x4, x5, x6⟩ := hX
    have nag : na n ≠ hsz g := by omega
    have kY : Keep h Y (fun _ => False) := ⟨by omega, fun a ha => by
      have kk := s4.2 a ha
      have oo := x3 a (by omega)
      exact ⟨oo.1.trans kk.1, oo.2.1.trans kk.2.1, fun z => by
        have cc := kk.2.2 z
        exact ⟨oo.2.2.1.trans cc.1, oo.2.2.2.1.trans cc.2.1, oo.2.2.2.2.trans cc.2.2⟩⟩⟩
    obtain ⟨y0, y1, y2, y3, y4, y5, y6, y7, y8⟩ := src kY
    have tz := s1.1.2.1
    have bz := s1.1.2.2.2.2.2
    have kt : hk Y t' = 5 := (x3 t' (by omega)).1.trans s1.kt
    have kb : hk Y b' = 12 := (x3 b' (by omega)).1.trans s1.1.2.2.2.1
    have lb : hLen Y b' = 500 := (x3 b' (by omega)).2.1.trans s1.1.2.2.2.2.1
    have pt : hP Y t' 0 = some b' := by rw [(x3 t' (by omega)).2.2.2.1]; exact s1.1.2.2.1
    have hK' : ∀ r, 0 < r ∧ r < 36 → K' r n = K r n := fun r hr => hK r n hnm hr.1 hr.2
    rw [onR_s, y5]
    refine ⟨y0, x4, h4 n hnT, ?_⟩
    have f6 : hI (sI Y (hsz g) 4 (K 4 n)) (na n) 5 = K 8 n := by rw [hI_ne (by omega), y6]
    rw [onR_s, f6]
    refine ⟨by rw [hk_sI]; exact y0, by rw [hk_sI]; exact x4, h8 n, ?_⟩
    intro Z
    have F : Sx2 Y Z (hsz g) (K 4 n) (K 8 n) := Sx2_ok
    clear_value Z
    obtain ⟨⟨k8, l8, p8, j8, z8, u8⟩, i8o, i8, i84, i85⟩ := F
    have f0 : hI Z (hsz g) 0 = nI n := by rw [i8 0 (by omega) (by omega)]; exact x6.1
    refine ⟨by rw [k8]; exact x4, ?_⟩
    rw [f0, if_neg (by rw [i_lt, nI_toInt (by omega), i_0]; omega), p8, pt, onR_s, k8, kb, l8, lb, if_pos (nI_lt n5 (by omega))]
    refine ⟨x4, kt, by omega, kt, x4, ?_⟩
    rw [onR_s, kb, lb, nI_clamp (by omega)]
    refine ⟨rfl, ix_nI n5 (by decide), fun bb e => by cases e; exact x4, ?_⟩
    intro g1
    have F : Sy1 Z g1 b' n (some (hsz g)) := Sy1_ok
    clear_value g1
    obtain ⟨⟨k9, l9, i9, j9, z9, u9⟩, p9o, p9⟩ := F
    -- the heap with the new node
    have S1 : TS h g1 t' b' (up1 na' n (hsz g)) (fun i => D i ∨ i = n) (bareM K' n) P (cnt + 1) := by
      refine S.new (hD n hnm) n5 (by rw [z9, z8]; exact x1) (by rw [u9, u8]; exact x2) (fun a ha => ?_) (fun i => ?_) (by rw [k9, k8]; exact x4) (fun k => ?_) ⟨by rw [i9]; exact f0, ?_, ?_, ?_, ?_, ?_, ?_⟩
      · have oo := x3 a ha
        refine ⟨by rw [k9, k8]; exact oo.1, by rw [l9, l8]; exact oo.2.1, ?_, fun hb => ?_, by rw [j9, j8]; exact oo.2.2.2.2⟩
        · rw [i9, i8o a ha]; exact oo.2.2.1
        · rw [p9o a hb, p8]; exact oo.2.2.2.1
      · rw [p9, p8, (x3 b' (by omega)).2.2.2.1]
      · rw [p9o _ (by omega), p8]; exact x5 k
      · rw [i9, i8 1 (by omega) (by omega), hK' 1 (by omega)]; exact x6.2.1
      · rw [i9, i8 2 (by omega) (by omega), hK' 2 (by omega)]; exact x6.2.2.1
      · rw [i9, i8 3 (by omega) (by omega), hK' 3 (by omega)]; exact x6.2.2.2.1
      · rw [i9, i84, hK' 4 (by omega)]
      · rw [i9, i85, hK' 8 (by omega)]
      · rw [i9, i8 11 (by omega) (by omega)]; exact x6.2.2.2.2.2.2
    have kt1 : hk g1 t' = 5 := by rw [k9, k8]; exact kt
    rw [onR_s]
    have sg1 := src S1.2.2.2.1
    rw [sg1.2.2.2.2.2.2.2.1, nI_1]
    have b7 : bareM K' n 7 n = -1 := by unfold bareM; rw [up2_ne (by omega), up2_ne (by omega), up2_ne (by omega), up2_at]
    have b6 : bareM K' n 6 n = -1 := by unfold bareM; rw [up2_ne (by omega), up2_ne (by omega), up2_ne (by omega), up2_ne (by omega), up2_at]
    have bo : ∀ r i, r < 36 → ¬ (i = n ∧ (r = 5 ∨ r = 6 ∨ r = 7)) → bareM K' n r i = K' r i := fun r i h1 h2 => by
      unfold bareM; rw [up2_ne (by omega), up2_ne (by omega), up2_ne (by omega), up2_ne (by omega), up2_ne (by omega), up2_ne (by omega)]
    have b43 : ∀ i, bareM K' n 43 i = K' 43 i := fun i => by
      unfold bareM; rw [up2_ne (by omega), up2_ne (by omega), up2_ne (by omega), up2_ne (by omega), up2_ne (by omega), up2_ne (by omega)]
    have z1 : up1 na' n (hsz g) n = hsz g := up1_on _
    have ltl : ∀ z, z ∈ ino l → z < 500 := fun z hz => V.lt (hT z (hlm z hz))
    have ltr : ∀ z, z ∈ ino r → z < 500 := fun z hz => V.lt (hT z (hrm z hz))
    have rl7 : ∀ i, rtO l = some i → K' 7 i = nI n := fun i e => by
      rw [hK 7 i (hlm i (rtO_root e).2) (by omega) (by omega)]
      cases l with
      | leaf _ => cases e
      | branch m l1 l2 => have e : m = i := Option.some.inj e; rw [← e]; exact El.1
    have rr7 : ∀ i, rtO r = some i → K' 7 i = nI n := fun i e => by
      rw [hK 7 i (hrm i (rtO_root e).2) (by omega) (by omega)]
      cases r with
      | leaf _ => cases e
      | branch m l1 l2 => have e : m = i := Option.some.inj e; rw [← e]; exact Er.1
    have pdr : ∀ (u : Tr), (∀ z, z ∈ ino u → z < 500) → (rootOf u = -1 ∨ ∃ j, j < 500 ∧ rootOf u = nI j) := fun u hu => by
      cases u with
      | leaf _ => exact Or.inl rfl
      | branch m _ _ => exact Or.inr ⟨m, hu m (List.mem_append_right _ List.mem_cons_self), rfl⟩
    have pdd : ∀ (u : Tr) (Dx : Nat → Prop), (∀ z, z ∈ ino u → Dx z) → pd Dx (rootOf u) := fun u Dx hu => by
      cases u with
      | leaf _ => exact Or.inl rfl
      | branch m _ _ => exact Or.inr ⟨m, hu m (List.mem_append_right _ List.mem_cons_self), rfl⟩
    refine ⟨sg1.1, all1.mpr kt1, by omega, ihl (nI n) (dep + 1) (d - 1) g1 _ _ _ P (cnt + 1) _ El (fun z hz => hT z (hlm z hz)) ndl (fun z hz c => ?_) (by omega) (by omega) (by omega) S1 (fun r i hi h0 hr => ?_) (fun g2 na2 K2 S2 k2 k2r k2l n2 => onO_v ?_)⟩
    · rcases c with c | c
      · exact hD z (hlm z hz) c
      · exact nnl (c ▸ hz)
    · rw [bo r i hr (fun z => nnl (z.1 ▸ hi))]; exact hK r i (hlm i hi) h0 hr
    have z2 : na2 n = hsz g := (n2 n (Or.inr rfl)).trans z1
    have hD2 : (fun i => (D i ∨ i = n) ∨ i ∈ ino l) n := Or.inl (Or.inr rfl)
    refine ⟨all1.mpr (by rw [← z2]; exact S2.1.kn hD2), by omega, ?_⟩
    rw [← z2]
    refine C_setLeft S2.1 hD2 (pdd l _ (fun z hz => Or.inr hz)) rfl (fun g3 V3 => ?_)
    have k3 : ∀ r i, r < 36 → i < 500 → ¬ (i = n ∧ (r = 6 ∨ r = 7)) → setM K2 5 n (rootOf l) r i = K' r i := by
      intro r i hr hi hne
      by_cases c1 : r = 5 ∧ i = n
      · rw [c1.1, c1.2, setM_at (by decide), hK' 5 (by omega), e5]
      · by_cases c2 : r = 7 ∧ rtO l = some i
        · obtain ⟨c2a, c2b⟩ := c2
          rw [c2a, (rtO_root c2b).1, setM_7 hi, rl7 i c2b]
        · rw [setM_ne (pdr l ltl) c1 (fun z => rtO_no (fun w => c2 ⟨z.1, w⟩) hi ltl z.2), k2 r i hr hi c2]
          exact bo r i hr (by omega)
    have k3n : ∀ r, r = 6 ∨ r = 7 → setM K2 5 n (rootOf l) r n = -1 := by
      intro r hr
      have hne : rtO l ≠ some n := fun z => nnl (rtO_root z).2
      rw [setM_ne (pdr l ltl) (by omega) (fun z => rtO_no hne n5 ltl z.2), k2 r n (by omega) n5 (fun z => hne z.2)]
      rcases hr with e | e
      · rw [e]; exact b6
      · rw [e]; exact b7
    have k3c : CH (setM K2 5 n (rootOf l)) (P ++ ino l) := S2.2.1.congr (fun i hi => ⟨setM_ne (pdr l ltl) (by omega) (by omega), setM_ne (pdr l ltl) (by omega) (by omega)⟩) (setM_ne (pdr l ltl) (by omega) (by omega)) (setM_ne (pdr l ltl) (by omega) (by omega))
    have S3 := S2.step V3 k3c S2.2.2.2.2.2.2.1 S2.2.2.2.2.2.2.2
    rw [S3.1.la.1, k3c.2.1]
    refine ⟨S3.1.kt, all1.mpr S3.1.kt, by omega, ?_⟩
    have hPD : ∀ x, x ∈ P ++ ino l → (fun i => (D i ∨ i = n) ∨ i ∈ ino l) x := S3.2.2.2.2.2.2.1
    have hnP : n ∉ P ++ ino l := fun z => by
      rcases List.mem_append.mp z with z | z
      · exact hD n hnm (s7 n z)
      · exact nnl z
    have hP5 : ∀ x, x ∈ P ++ ino l → x < 500 := fun x hx => S3.1.lt (hPD x hx)
    simp only [onR_s]
    have hchn := C_chain (lim := lim) (d := d - 1) (R := fun _ h28 => hk h28 (na n) = 2 ∧ (∀ q ∈ [((0 : Int), (5 : Nat))], hk h28 t' = q.2) ∧ 0 < d ∧ WM lim (d - 1) j_Tr_takeOver [vr (some t'), vr (hP h28 (na n) 8), vi (nI (dep + 1))] h28 (fun v31 h30 => onO v31 fun o32 => (∀ q ∈ [((0 : Int), (2 : Nat))], hk h30 (na2 n) = q.2) ∧ 0 < d ∧ WM lim (d - 1) j_No_setRight [vr (some (na2 n)), vr o32] h30 (fun _ h33 => True ∧ R (some (vr (some (na2 n)))) h33) (X)) (X)) (X := X) (n := n) (s := laI (P ++ ino l)) (e := -1) S3.1 hD2 (laI_pd hPD) (Or.inl rfl) (fun g4 V4 => ?_)
    · rw [oa_n] at hchn
      exact hchn
    have c4 : CH (chM (setM K2 5 n (rootOf l)) (laI (P ++ ino l)) n (-1)) (P ++ ino l ++ [n]) := by
      have := CH_ins (K := setM K2 5 n (rootOf l)) (n := n) (A := P ++ ino l) (B := []) (by rw [List.append_nil]; exact k3c) (by rw [List.append_nil]; exact hnP) (by rw [List.append_nil]; exact S3.2.2.2.2.2.2.2) (fun x hx => hP5 x (by rw [List.append_nil] at hx; exact hx))
      exact this
    have S4 := S3.step V4 c4 (fun x hx => by
      rcases List.mem_append.mp hx with hx | hx
      · exact hPD x hx
      · rw [List.mem_singleton.mp hx]; exact hD2) (by
      rw [List.nodup_append]
      refine ⟨S3.2.2.2.2.2.2.2, List.nodup_cons.mpr ⟨List.not_mem_nil, List.nodup_nil⟩, fun x hx y hy e => ?_⟩
      rw [List.mem_singleton] at hy
      exact hnP (by rw [← hy, ← e]; exact hx))
    have k4 : ∀ r i, r < 36 → chM (setM K2 5 n (rootOf l)) (laI (P ++ ino l)) n (-1) r i = setM K2 5 n (rootOf l) r i := fun r i hr => chM_o (by omega)
    have k4l : chM (setM K2 5 n (rootOf l)) (laI (P ++ ino l)) n (-1) 43 2 = K' 43 2 := by
      rw [chM_o (by omega), setM_ne (pdr l ltl) (by omega) (by omega), k2l, b43]
    generalize chM (setM K2 5 n (rootOf l)) (laI (P ++ ino l)) n (-1) = K4 at S4 k4 k4l
    have sg4 := src S4.2.2.2.1
    rw [sg4.2.2.2.2.2.2.2.2]
    have hlen2 : cnt + 1 + (ino l).length + (ino r).length ≤ 100 := by omega
    refine ⟨sg4.1, all1.mpr S4.1.kt, by omega, ihr (nI n) (dep + 1) (d - 1) g4 _ _ _ _ _ _ Er (fun z hz => hT z (hrm z hz)) ndr (fun z hz c => ?_) (by omega) (by omega) hlen2 S4 (fun r i hi h0 hr => ?_) (fun g5 na5 K5 S5 k5 k5r k5l n5' => onO_v ?_)⟩
    · rcases c with (c | c) | c
      · exact hD z (hrm z hz) c
      · exact nnr (c ▸ hz)
      · exact hlr z c hz
    · rw [k4 r i hr, k3 r i hr (ltr i hi) (fun z => nnr (z.1 ▸ hi))]; exact hK r i (hrm i hi) h0 hr
    have z5 : na5 n = na2 n := n5' n hD2
    have hD5 : (fun i => ((D i ∨ i = n) ∨ i ∈ ino l) ∨ i ∈ ino r) n := Or.inl hD2
    rw [← z5]
    refine ⟨all1.mpr (S5.1.kn hD5), by omega, C_setRight S5.1 hD5 (pdd r _ (fun z hz => Or.inr hz)) rfl (fun g6 V6 => ⟨trivial, ?_⟩)⟩
    have k6c : CH (setM K5 6 n (rootOf r)) (P ++ ino l ++ [n] ++ ino r) := S5.2.1.congr (fun i hi => ⟨setM_ne (pdr r ltr) (by omega) (by omega), setM_ne (pdr r ltr) (by omega) (by omega)⟩) (setM_ne (pdr r ltr) (by omega) (by omega)) (setM_ne (pdr r ltr) (by omega) (by omega))
    have S6 := S5.step V6 k6c S5.2.2.2.2.2.2.1 S5.2.2.2.2.2.2.2
    have hne : rtO r ≠ some n := fun z => nnr (rtO_root z).2
    have fin := q g6 na5 (setM K5 6 n (rootOf r)) (by
      rw [hlen, hin]
      have eL : P ++ ino l ++ [n] ++ ino r = P ++ (ino l ++ n :: ino r) := by simp
      have eC : cnt + 1 + (ino l).length + (ino r).length = cnt + ((ino l).length + ((ino r).length + 1)) := by omega
      rw [eL, eC] at S6
      refine S6.dom (fun i => ?_)
      rw [List.mem_append, List.mem_cons]
      constructor
      · rintro (((z | z) | z) | z)
        · exact Or.inl z
        · exact Or.inr (Or.inr (Or.inl z))
        · exact Or.inr (Or.inl z)
        · exact Or.inr (Or.inr (Or.inr z))
      · rintro (z | z | z | z)
        · exact Or.inl (Or.inl (Or.inl z))
        · exact Or.inl (Or.inr z)
        · exact Or.inl (Or.inl (Or.inr z))
        · exact Or.inr z) (fun r' i hr hi hne' => ?_) (fun i e => ?_) ?_ (fun i hi => ?_)
    · rw [show rootOf (.branch n l r) = nI n from rfl, oa_s n5] at fin
      exact fin
    · have hne2 : ¬ (r' = 7 ∧ i = n) := fun z => hne' ⟨z.1, by rw [z.2]; rfl⟩
      by_cases c1 : r' = 6 ∧ i = n
      · rw [c1.1, c1.2, setM_at (by decide), hK' 6 (by omega), e6]
      · by_cases c2 : r' = 7 ∧ rtO r = some i
        · obtain ⟨c2a, c2b⟩ := c2
          rw [c2a, (rtO_root c2b).1, setM_7 hi, rr7 i c2b]
        · rw [setM_ne (pdr r ltr) c1 (fun z => rtO_no (fun w => c2 ⟨z.1, w⟩) hi ltr z.2), k5 r' i hr hi c2, k4 r' i hr]
          exact k3 r' i hr hi (by omega)
    · have e : n = i := Option.some.inj e
      rw [← e, setM_ne (pdr r ltr) (by omega) (fun z => rtO_no hne n5 ltr z.2), k5 7 n (by omega) n5 (fun z => hne z.2), k4 7 n (by omega)]
      exact k3n 7 (Or.inr rfl)
    · rw [setM_ne (pdr r ltr) (by omega) (by omega), k5l, k4l]
    · rw [n5' i (Or.inl (Or.inl hi)), n2 i (Or.inl hi), up1_off _ (show i ≠ n from fun e => hD n hnm (e ▸ hi))]
end TAKE
