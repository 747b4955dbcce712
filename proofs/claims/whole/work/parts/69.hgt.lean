/-! ===== height and digest ===== -/
def nl : Nat → Tr → List (Nat × Nat)
  | _, .leaf _ => []
  | k, .branch n l r => nl (k + 1) l ++ (n, k) :: nl (k + 1) r
theorem nl_ino : ∀ (t : Tr) (k : Nat), (nl k t).map Prod.fst = ino t := by
  intro t
  induction t with
  | leaf _ => intro k; rfl
  | branch n l r hl hr => intro k; show (nl (k + 1) l ++ (n, k) :: nl (k + 1) r).map Prod.fst = ino l ++ n :: ino r; rw [List.map_append, List.map_cons, hl, hr]
theorem nl_zip {M : MT} : ∀ (t : Tr) (cx : Zc), EncZ M t cx → ∀ q ∈ nl (cx.length + 1) t, ∃ a b cx', EncZ M (.branch q.1 a b) cx' ∧ cx'.length + 1 = q.2 := by
  intro t
  induction t with
  | leaf _ => intro cx _ q hq; cases hq
  | branch n l r hl hr =>
    intro cx e q hq
    rcases List.mem_append.mp hq with hq | hq
    · exact hl ((true, n, r) :: cx) (EncZ_t.mpr e) q hq
    · rcases List.mem_cons.mp hq with rfl | hq
      · exact ⟨l, r, cx, e, rfl⟩
      · exact hr ((false, n, l) :: cx) (EncZ_f.mpr e) q hq
def mxL : Nat → List (Nat × Nat) → Nat
  | m, [] => m
  | m, q :: l => mxL (max m q.2) l
theorem mxL_app : ∀ (l1 l2 : List (Nat × Nat)) (m : Nat), mxL m (l1 ++ l2) = mxL (mxL m l1) l2 := by
  intro l1
  induction l1 with
  | nil => intro l2 m; rfl
  | cons q l1 ih => intro l2 m; exact ih l2 _
theorem mxL_nl : ∀ (t : Tr) (k m : Nat), 1 ≤ k → mxL m (nl k t) = if tht t = 0 then m else max m (k - 1 + tht t) := by
  intro t
  induction t with
  | leaf _ => intro k m _; rfl
  | branch n l r hl hr =>
    intro k m hk
    show mxL m (nl (k + 1) l ++ (n, k) :: nl (k + 1) r) = if 1 + max (tht l) (tht r) = 0 then m else max m (k - 1 + (1 + max (tht l) (tht r)))
    rw [if_neg (show ¬ (1 + max (tht l) (tht r) = 0) by omega), mxL_app]
    show mxL (max (mxL m (nl (k + 1) l)) k) (nl (k + 1) r) = _
    rw [hr (k + 1) _ (by omega), hl (k + 1) _ (by omega)]
    by_cases c1 : tht l = 0
    · rw [if_pos c1]
      by_cases c2 : tht r = 0
      · rw [if_pos c2]; omega
      · rw [if_neg c2]; omega
    · rw [if_neg c1]
      by_cases c2 : tht r = 0
      · rw [if_pos c2]; omega
      · rw [if_neg c2]; omega
theorem and255 (v : Int32) : ix (v &&& 255) 256 ∧ v &&& 255 = nI (v &&& 255).toNatClampNeg := by
  have h1 : (v &&& 255).toBitVec.toNat < 256 := by
    rw [Int32.toBitVec_and, BitVec.toNat_and]
    exact Nat.lt_of_le_of_lt Nat.and_le_right (by decide)
  have h2 : (v &&& 255).toInt = ((v &&& 255).toBitVec.toNat : Int) := by
    show (v &&& 255).toBitVec.toInt = _
    rw [BitVec.toInt_eq_toNat_cond, if_pos (by omega)]
  have hi : ix (v &&& 255) 256 := by rw [ix_iff, h2]; omega
  refine ⟨hi, ?_⟩
  obtain ⟨k, hk, e⟩ := ix_ex hi (by decide)
  rw [e, nI_clamp (by omega)]
def Tab (g : AHp) (c : Nat) : Prop := ∃ a, hP g c 0 = some a ∧ hk g a = 8 ∧ hLen g a = 256 ∧ ∀ i, i < 256 → hI g a i = crcN 8 (nI i)
theorem id_lo : ∀ i : Fin 500, nI i.val &&& 255 = nI i.val - nI i.val / 256 * 256 ∧ nI i.val >>> ((8 : Int32) &&& 31) = nI i.val / 256 := by decide +kernel
section HGT
variable {g : AHp} {c t b : Nat} {na : Nat → Nat} {K : MT} {T : Tr} {N : Nat} {W : Int} {lim : Nat × Nat} {d : Nat} {R : RT} {X : XT} {x y : Int32}
theorem C_level4 (V : CV g g t b na (fun i => i ∈ ino T) K) {a : Nat} : ∀ (cx : Zc) (tt : Tr) (acc : Nat), EncZ K tt cx → (∀ z ∈ ino (plug tt cx), z ∈ ino T) → (∃ n l r, tt = .branch n l r) → acc + cx.length < 1000 → R (some (vi (nI (acc + cx.length + 1)))) g → WP lim d j_No_level 4 [some (vr (some a)), some (vi (nI acc)), some (vr (oa na (rootOf tt)))] [] g R X := by
  intro cx
  induction cx with
  | nil =>
    intro tt acc e hs ⟨n, l, r, ht⟩ hb q
    subst ht
    have hn : n ∈ ino T := hs n (by show n ∈ ino l ++ n :: ino r; simp)
    refine B_No_level_4 ?_
    rw [show rootOf (.branch n l r) = nI n from rfl, oa_s (V.lt hn), ifN_s, onR_s, (V.pa hn).1, show K 7 n = -1 from e.1.1, oa_n, nI_1]
    exact ⟨V.kn hn, B_No_level_4 ⟨rfl, q⟩⟩
  | cons f cx ih =>
    intro tt acc e hs ⟨n, l, r, ht⟩ hb q
    obtain ⟨bb, p, s⟩ := f
    subst ht
    have hn : n ∈ ino T := hs n ((plug_perm _ _).mem_iff.mpr (List.mem_append_left _ (by show n ∈ ino l ++ n :: ino r; simp)))
    rw [List.length_cons] at hb q
    refine B_No_level_4 ?_
    rw [show rootOf (.branch n l r) = nI n from rfl, oa_s (V.lt hn), ifN_s, onR_s, (V.pa hn).1, show K 7 n = nI p from e.1.1, nI_1]
    refine ⟨V.kn hn, ?_⟩
    have q' : R (some (vi (nI (acc + 1 + cx.length + 1)))) g := by rw [show acc + 1 + cx.length + 1 = acc + (cx.length + 1) + 1 by omega]; exact q
    cases bb with
    | true => exact ih (.branch p (.branch n l r) s) (acc + 1) (EncZ_t.mp e) hs ⟨_, _, _, rfl⟩ (by omega) q'
    | false => exact ih (.branch p s (.branch n l r)) (acc + 1) (EncZ_f.mp e) hs ⟨_, _, _, rfl⟩ (by omega) q'
theorem C_level (V : CV g g t b na (fun i => i ∈ ino T) K) {n : Nat} {l r : Tr} {cx : Zc} (e : EncZ K (.branch n l r) cx) (hs : ∀ z ∈ ino (plug (.branch n l r) cx), z ∈ ino T) (hb : cx.length < 900) (q : R (some (vi (nI (cx.length + 1)))) g) : WM lim d j_No_level [vr (some (na n))] g R X := by
  have hn : n ∈ ino T := hs n ((plug_perm _ _).mem_iff.mpr (List.mem_append_left _ (by show n ∈ ino l ++ n :: ino r; simp)))
  refine B_No_level_0 ?_
  have := C_level4 (lim := lim) (d := d) (X := X) (a := na n) V cx (.branch n l r) 0 e hs ⟨_, _, _, rfl⟩ (by omega) (by rw [Nat.zero_add]; exact q)
  rw [nI_0, show rootOf (.branch n l r) = nI n from rfl, oa_s (V.lt hn)] at this
  exact this
theorem Enc_fun {M : MT} : ∀ {t t' : Tr} {up : Int32}, (∀ x ∈ ino t, x < 500) → (∀ x ∈ ino t', x < 500) → rootOf t = rootOf t' → Enc M up t → Enc M up t' → t = t' := by
  intro t
  induction t with
  | leaf u =>
    intro t' up _ hb' hr _ _
    cases t' with
    | leaf v => rfl
    | branch n l r => exact (nI_m1 (n := n) (by have := hb' n (by show n ∈ ino l ++ n :: ino r; simp); omega) hr.symm).elim
  | branch n l r hl hr =>
    intro t' up hb hb' hro e e'
    cases t' with
    | leaf v => exact (nI_m1 (n := n) (by have := hb n (by show n ∈ ino l ++ n :: ino r; simp); omega) hro).elim
    | branch n' l' r' =>
      have hn : n = n' := nI_inj (hb n (by show n ∈ ino l ++ n :: ino r; simp)) (hb' n' (by show n' ∈ ino l' ++ n' :: ino r'; simp)) hro
      subst hn
      rw [hl (fun x hx => hb x (List.mem_append_left _ hx)) (fun x hx => hb' x (List.mem_append_left _ hx)) (e.2.1.symm.trans e'.2.1) e.2.2.2.1 e'.2.2.2.1, hr (fun x hx => hb x (List.mem_append_right _ (List.mem_cons_of_mem _ hx))) (fun x hx => hb' x (List.mem_append_right _ (List.mem_cons_of_mem _ hx))) (e.2.2.1.symm.trans e'.2.2.1) e.2.2.2.2 e'.2.2.2.2]
theorem nl_zip2 {M : MT} : ∀ (t : Tr) (cx : Zc), EncZ M t cx → ∀ q ∈ nl (cx.length + 1) t, ∃ a b cx', EncZ M (.branch q.1 a b) cx' ∧ cx'.length + 1 = q.2 ∧ plug (.branch q.1 a b) cx' = plug t cx := by
  intro t
  induction t with
  | leaf _ => intro cx _ q hq; cases hq
  | branch n l r hl hr =>
    intro cx e q hq
    rcases List.mem_append.mp hq with hq | hq
    · exact hl ((true, n, r) :: cx) (EncZ_t.mpr e) q hq
    · rcases List.mem_cons.mp hq with rfl | hq
      · exact ⟨l, r, cx, e, rfl, rfl⟩
      · exact hr ((false, n, l) :: cx) (EncZ_f.mpr e) q hq
theorem C_h10 (O : RO g c t b na K T N W) (hd : 0 < d) (q : R (some (vi (nI (mxL 0 (nl 1 T))))) g) : ∀ (S P : List (Nat × Nat)) , nl 1 T = P ++ S → WP lim d j_It_height 10 [some (vr (some c)), some (vi (nI (mxL 0 P))), some (vr (oa na (hdI (S.map Prod.fst))))] [] g R X := by
  have hlen := O.2.2.1.2.2.2.2.2.2.2.2.2.1
  have hB := O.2.2.1.2.2.1.2.2.1
  obtain ⟨k, B⟩ := hB
  have hh : tht T ≤ 13 := RB_low B (by rw [← tsz_ino]; exact hlen)
  have hmx : ∀ (S P : List (Nat × Nat)) (m : Nat), m ≤ mxL m S := by
    intro S
    induction S with
    | nil => intro P m; exact Nat.le_refl _
    | cons z S ih => intro P m; exact Nat.le_trans (Nat.le_max_left _ _) (ih P _)
  have hall : mxL 0 (nl 1 T) ≤ 13 := by rw [mxL_nl T 1 0 (by omega)]; split <;> omega
  intro S
  induction S with
  | nil =>
    intro P h
    rw [List.append_nil] at h
    rw [← h]
    exact B_It_height_10 (by rw [show hdI (List.map Prod.fst ([] : List (Nat × Nat))) = (-1 : Int32) from rfl, oa_n]; exact ⟨rfl, q⟩)
  | cons z S ih =>
    intro P h
    have hz : z ∈ nl 1 T := by rw [h]; simp
    obtain ⟨a', b', cx', e1, e2, e3⟩ := nl_zip2 T [] O.2.2.1.2.2.1.1 z hz
    have e3 : plug (.branch z.1 a' b') cx' = T := e3
    have hiT : z.1 ∈ ino T := by rw [← nl_ino T 1]; exact List.mem_map_of_mem hz
    have hP : mxL 0 P ≤ 13 := by
      have := hmx (z :: S) P (mxL 0 P)
      rw [← mxL_app, ← h] at this; omega
    have hz2 : z.2 ≤ 13 := by
      have h1 := hmx S P (max (mxL 0 P) z.2)
      have h2 : mxL (max (mxL 0 P) z.2) S = mxL 0 (nl 1 T) := by rw [h, mxL_app]; rfl
      omega
    have e41 : K 41 z.1 = hdI (S.map Prod.fst) := by
      refine (CH.at (A := P.map Prod.fst) ?_).2
      have := nl_ino T 1
      rw [h, List.map_append, List.map_cons] at this
      rw [this]; exact O.2.2.2.1
    refine B_It_height_10 ?_
    rw [show hdI (List.map Prod.fst (z :: S)) = nI z.1 from rfl, oa_s (O.2.1.lt hiT), ifN_s, onR_s]
    refine ⟨all1.mpr (O.2.1.kn hiT), hd, C_level O.2.1 e1 (by rw [e3]; exact fun x hx => hx) (by omega) (onI_v ?_)⟩
    rw [onR_s, (O.2.1.af hiT).1, e41, e2, nI_max (by omega) (by omega)]
    refine ⟨O.2.1.kn hiT, ?_⟩
    have := ih (P ++ [z]) (by rw [h]; simp)
    rw [mxL_app] at this
    exact this
theorem C_height (O : RO g c t b na K T N W) (hd : 0 < d) (q : R (some (vi (nI (tht T)))) g) : WM lim d j_It_height [vr (some c)] g R X := by
  refine B_It_height_0 ⟨O.1.1, ?_⟩
  rw [O.1.2, onR_s, O.2.1.fi.1, O.2.2.2.1.1, ← nl_ino T 1, ← nI_0]
  refine ⟨O.2.1.kt, C_h10 O hd ?_ (nl 1 T) [] rfl⟩
  rw [mxL_nl T 1 0 (by omega)]
  by_cases h : tht T = 0
  · rw [if_pos h, ← h]; exact q
  · rw [if_neg h, show max 0 (1 - 1 + tht T) = tht T by omega]; exact q
theorem C_absorb (hc : hk g c = 6) (TB : Tab g c) (q : R (some (vi (absI x y))) g) : WM lim d j_It_absorb [vr (some c), vi x, vi y] g R X := by
  obtain ⟨a, h1, h2, h3, h4⟩ := TB
  refine B_It_absorb_0 ⟨hc, ?_⟩
  rw [h1, onR_s, h3]
  have hx := and255 (x ^^^ y)
  rw [h4 _ hx.1.2, ← hx.2]
  exact ⟨h2, hx.1, rfl, q⟩
theorem C_digestOf (O : RO g c t b na K T N W) (TB : Tab g c) : ∀ (tt : Tr) (up v : Int32) (dep d : Nat) (R : RT), Enc K up tt → (∀ z ∈ ino tt, z ∈ ino T) → dep + tht tt ≤ 40 → tht tt + 1 < d → R (some (vi (digT K tt v))) g → WM lim d j_It_digestOf [vr (some c), vr (oa na (rootOf tt)), vi v, vi (nI dep)] g R X := by
  intro tt
  induction tt with
  | leaf u => intro up v dep d R _ _ _ _ q; exact B_It_digestOf_0 (by rw [show rootOf (.leaf u) = (-1 : Int32) from rfl, oa_n]; exact ⟨rfl, q⟩)
  | branch n l r hl hr =>
    intro up v dep d R e hs hdep hd q
    have hdep : dep + (1 + max (tht l) (tht r)) ≤ 40 := hdep
    have hd : 1 + max (tht l) (tht r) + 1 < d := hd
    have hn : n ∈ ino T := hs n (by show n ∈ ino l ++ n :: ino r; simp)
    have n5 := O.2.1.lt hn
    have hil := id_lo ⟨n, n5⟩
    have q : R (some (vi (digT K r (digT K l (absI (absI (absI (absI v (nI n - nI n / 256 * 256)) (nI n / 256)) (if K 8 n = 0 then 0 else 1)) (if K 4 n = 1 then 1 else 0)))))) g := q
    have k6 := O.1.1
    refine B_It_digestOf_0 ?_
    rw [show rootOf (.branch n l r) = nI n from rfl, oa_s n5]
    simp only [ifN_s, onR_s, all1, O.2.1.id hn, true_and, hil.1, hil.2]
    rw [if_neg (by rw [show (40 : Int32) = nI 40 from rfl]; exact nI_nlt (by omega) (by omega))]
    refine ⟨O.2.1.kn hn, k6, by omega, C_absorb k6 TB (onI_v ?_)⟩
    simp only [O.2.1.id hn, hil.2]
    refine ⟨O.2.1.kn hn, k6, by omega, C_absorb k6 TB (onI_v ?_)⟩
    simp only [O.2.1.re hn]
    refine ⟨O.2.1.kn hn, ?_⟩
    have last : ∀ y4 : Int32, R (some (vi (digT K r (digT K l y4)))) g → (hk g (na n) = 2 ∧ hk g c = 6 ∧ 0 < d ∧ WM lim (d - 1) j_It_digestOf [vr (some c), vr (hP g (na n) 7), vi y4, vi (nI dep + (1 : Int32))] g (fun v19 h18 => onI v19 fun x20 => hk h18 (na n) = 2 ∧ hk h18 c = 6 ∧ 0 < d ∧ WM lim (d - 1) j_It_digestOf [vr (some c), vr (hP h18 (na n) 8), vi x20, vi (nI dep + (1 : Int32))] h18 (fun v23 h22 => onI v23 fun x24 => R (some (vi x24)) h22) X) X) := by
      intro y4 q4
      rw [(O.2.1.le hn).1, e.2.1, nI_1]
      refine ⟨O.2.1.kn hn, k6, by omega, hl _ y4 (dep + 1) (d - 1) _ e.2.2.2.1 (fun z hz => hs z (List.mem_append_left _ hz)) (by omega) (by omega) (onI_v ?_)⟩
      rw [(O.2.1.ri hn).1, e.2.2.1]
      exact ⟨O.2.1.kn hn, k6, by omega, hr _ _ (dep + 1) (d - 1) _ e.2.2.2.2 (fun z hz => hs z (List.mem_append_right _ (List.mem_cons_of_mem _ hz))) (by omega) (by omega) (onI_v q4)⟩
    have st : ∀ y3 : Int32, R (some (vi (digT K r (digT K l (absI y3 (if K 4 n = 1 then 1 else 0)))))) g → (hk g (na n) = 2 ∧ if K 4 n = 0 then (hk g c = 6 ∧ 0 < d ∧ WM lim (d - 1) j_It_absorb [vr (some c), vi y3, vi 0] g (fun v15 h14 => onI v15 fun x16 => hk h14 (na n) = 2 ∧ hk h14 c = 6 ∧ 0 < d ∧ WM lim (d - 1) j_It_digestOf [vr (some c), vr (hP h14 (na n) 7), vi x16, vi (nI dep + (1 : Int32))] h14 (fun v19 h18 => onI v19 fun x20 => hk h18 (na n) = 2 ∧ hk h18 c = 6 ∧ 0 < d ∧ WM lim (d - 1) j_It_digestOf [vr (some c), vr (hP h18 (na n) 8), vi x20, vi (nI dep + (1 : Int32))] h18 (fun v23 h22 => onI v23 fun x24 => R (some (vi x24)) h22) X) X) X) else (hk g c = 6 ∧ 0 < d ∧ WM lim (d - 1) j_It_absorb [vr (some c), vi y3, vi 1] g (fun v15 h14 => onI v15 fun x16 => hk h14 (na n) = 2 ∧ hk h14 c = 6 ∧ 0 < d ∧ WM lim (d - 1) j_It_digestOf [vr (some c), vr (hP h14 (na n) 7), vi x16, vi (nI dep + (1 : Int32))] h14 (fun v19 h18 => onI v19 fun x20 => hk h18 (na n) = 2 ∧ hk h18 c = 6 ∧ 0 < d ∧ WM lim (d - 1) j_It_digestOf [vr (some c), vr (hP h18 (na n) 8), vi x20, vi (nI dep + (1 : Int32))] h18 (fun v23 h22 => onI v23 fun x24 => R (some (vi x24)) h22) X) X) X)) := by
      intro y3 q3
      refine ⟨O.2.1.kn hn, ?_⟩
      rcases O.2.2.1.st hn with s | s
      · rw [if_pos s]
        rw [s, if_neg (by decide)] at q3
        exact ⟨k6, by omega, C_absorb k6 TB (onI_v (last _ q3))⟩
      · rw [if_neg (by rw [s]; decide)]
        rw [if_pos s] at q3
        exact ⟨k6, by omega, C_absorb k6 TB (onI_v (last _ q3))⟩
    by_cases c8 : K 8 n = 0
    · rw [if_pos c8] at q ⊢
      refine ⟨k6, by omega, C_absorb k6 TB (onI_v ?_)⟩
      simp only [O.2.1.st hn]
      exact st _ q
    · rw [if_neg c8] at q ⊢
      refine ⟨k6, by omega, C_absorb k6 TB (onI_v ?_)⟩
      simp only [O.2.1.st hn]
      exact st _ q
theorem C_digest (O : RO g c t b na K T N W) (TB : Tab g c) (hd : 16 < d) (q : R (some (vi (digT K T (-1)))) g) : WM lim d j_It_digest [vr (some c)] g R X := by
  have hlen := O.2.2.1.2.2.2.2.2.2.2.2.2.1
  obtain ⟨k, B⟩ := O.2.2.1.2.2.1.2.2.1
  have hh : tht T ≤ 13 := RB_low B (by rw [← tsz_ino]; exact hlen)
  refine B_It_digest_0 ⟨O.1.1, ?_⟩
  rw [O.1.2, onR_s, O.2.1.ro.1, show K 0 9 = rootOf T from O.2.2.1.2.2.1.1.2, ← nI_0]
  exact ⟨O.2.1.kt, all1.mpr O.1.1, by omega, C_digestOf O TB T (-1) (-1) 0 (d - 1) _ O.2.2.1.2.2.1.1.1 (fun z hz => hz) (by omega) (by omega) (onI_v ⟨rfl, q⟩)⟩
variable {z : Nat × Nat} {M : MT} {Q : Option AV → MT → Prop}
theorem S_height (I : TI M T N W) (hd : 16 < d) (q : Q (some (vi (nI (tht T)))) M) : WQ z d j_Mo_height [vr (some 0)] M Q := by
  have hlen := I.2.2.2.2.2.2.2.2.2.1
  obtain ⟨k, B⟩ := I.2.2.1.2.2.1
  have hh : tht T ≤ 13 := RB_low B (by rw [← tsz_ino]; exact hlen)
  refine M_height_0 ⟨by omega, ?_⟩
  rw [show M 0 9 = rootOf T from I.2.2.1.1.2]
  exact S_heightOf T (d - 1) (-1) _ I.2.2.1.1.1 (fun n hn => (I.lt hn).2) (by omega) (by rw [← tsz_ino]; omega) q
theorem S_digest (I : TI M T N W) (hd : 16 < d) (q : Q (some (vi (digT M T (-1)))) (up2 M 0 21 (digT M T (-1)))) : WQ z d j_Mo_digest [vr (some 0)] M Q := by
  have hlen := I.2.2.2.2.2.2.2.2.2.1
  obtain ⟨k, B⟩ := I.2.2.1.2.2.1
  have hh : tht T ≤ 13 := RB_low B (by rw [← tsz_ino]; exact hlen)
  refine M_digest_0 ⟨by omega, ?_⟩
  rw [up2_ne (by omega), show M 0 9 = rootOf T from I.2.2.1.1.2]
  refine S_visits T (d - 1) (-1) (-1) _ I.2.2.1.1.1 (fun n hn => (I.lt hn).2) (by omega) ?_
  rw [up2_at]; exact q
end HGT
