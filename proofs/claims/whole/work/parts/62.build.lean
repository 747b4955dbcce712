/-! ===== the class: building anew ===== -/
theorem setM_at {K : MT} {r n : Nat} {x : Int32} (h : r ≠ 7) : setM K r n x r n = x := by
  unfold setM; split
  · exact up2_at
  · rw [up2_ne (by omega), up2_at]
theorem setM_7 {K : MT} {r n i : Nat} (h : i < 500) : setM K r n (nI i) 7 i = nI n := by
  unfold setM; rw [if_neg (nI_m1 (by omega)), nI_clamp (by omega), up2_at]
theorem setM_ne {K : MT} {r n r' i : Nat} {x : Int32} (hx : x = -1 ∨ ∃ j, j < 500 ∧ x = nI j) (h1 : ¬ (r' = r ∧ i = n)) (h2 : ¬ (r' = 7 ∧ x = nI i)) : setM K r n x r' i = K r' i := by
  unfold setM
  rcases hx with rfl | ⟨j, hj, rfl⟩
  · rw [if_pos rfl, up2_ne h1]
  · rw [if_neg (nI_m1 (by omega)), nI_clamp (by omega), up2_ne (fun c => h2 ⟨c.1, by rw [c.2]⟩), up2_ne h1]
def ColR (M : MT) (rd : Int32) : Nat → Tr → Prop
  | _, .leaf _ => True
  | dep, .branch n l r => M 8 n = (if nI dep = rd then 1 else 0) ∧ ColR M rd (dep + 1) l ∧ ColR M rd (dep + 1) r
theorem ColR_congr {M M' : MT} {rd : Int32} : ∀ {t : Tr} {dep : Nat}, (∀ x ∈ ino t, M 8 x = M' 8 x) → ColR M rd dep t → ColR M' rd dep t := by
  intro t
  induction t with
  | leaf _ => intro _ _ _; trivial
  | branch n l r hl hr =>
    intro dep h ⟨e1, e2, e3⟩
    exact ⟨(h n (List.mem_append_right _ List.mem_cons_self)) ▸ e1, hl (fun x hx => h x (List.mem_append_left _ hx)) e2, hr (fun x hx => h x (List.mem_append_right _ (List.mem_cons_of_mem _ hx))) e3⟩
def BcP (K K' : MT) (l : List Nat) (dep : Nat) (rd : Int32) (t : Tr) : Prop :=
  (∃ up, Enc K' up t) ∧ ColR K' rd dep t ∧ (∀ r i, ((r ≠ 5 ∧ r ≠ 6 ∧ r ≠ 7 ∧ r ≠ 8) ∨ (i ∉ l ∧ i < 500)) → K' r i = K r i)
theorem root_v {t : Tr} (h : ∀ x ∈ ino t, x < 500) : rootOf t = -1 ∨ ∃ j, j < 500 ∧ rootOf t = nI j := by
  rcases root_in (t := t) with c | ⟨n, hn, c⟩
  · exact Or.inl c
  · exact Or.inr ⟨n, h n hn, c⟩
theorem root_ne {t : Tr} {i : Nat} (hb : ∀ x ∈ ino t, x < 500) (hi : i < 500) (h : i ∉ ino t) : ¬ rootOf t = nI i := nroot hi hb h
/-- both subtrees built and hung under m -/
theorem Bc_join {K K1 K2 K4 : MT} {A R : List Nat} {m dep f : Nat} {rd v : Int32} (hA : A.length < 2 ^ f) (hR : R.length < 2 ^ f) (hnd : (A ++ m :: R).Nodup) (hb : ∀ x ∈ A ++ m :: R, x < 500) (hv : v = if nI dep = rd then 1 else 0)
    (e1 : K1 = up2 K 8 m v) (B2 : BcP K1 K2 A (dep + 1) rd (bt f A)) (B4 : BcP (setM K2 5 m (rootOf (bt f A))) K4 R (dep + 1) rd (bt f R)) : BcP K (setM K4 6 m (rootOf (bt f R))) (A ++ m :: R) dep rd (.branch m (bt f A) (bt f R)) := by
  obtain ⟨⟨uA, E2⟩, C2, F2⟩ := B2
  obtain ⟨⟨uR, E4⟩, C4, F4⟩ := B4
  have iA : ino (bt f A) = A := ino_bt f A hA
  have iR : ino (bt f R) = R := ino_bt f R hR
  rw [List.nodup_append, List.nodup_cons] at hnd
  obtain ⟨nA, ⟨nm, nR⟩, nAR⟩ := hnd
  have mA : m ∉ A := fun x => nAR m x m List.mem_cons_self rfl
  have hAR : ∀ x ∈ A, x ∉ R ∧ x ≠ m := fun x hx => ⟨fun y => nAR x hx x (List.mem_cons_of_mem _ y) rfl, nAR x hx m List.mem_cons_self⟩
  have hRA : ∀ x ∈ R, x ∉ A ∧ x ≠ m := fun x hx => ⟨fun y => nAR x y x (List.mem_cons_of_mem _ hx) rfl, fun y => nm (y ▸ hx)⟩
  have bA : ∀ x ∈ A, x < 500 := fun x hx => hb x (List.mem_append_left _ hx)
  have bR : ∀ x ∈ R, x < 500 := fun x hx => hb x (List.mem_append_right _ (List.mem_cons_of_mem _ hx))
  have bm : m < 500 := hb m (by simp)
  have vA : rootOf (bt f A) = -1 ∨ ∃ j, j < 500 ∧ rootOf (bt f A) = nI j := root_v (by rw [iA]; exact bA)
  have vR : rootOf (bt f R) = -1 ∨ ∃ j, j < 500 ∧ rootOf (bt f R) = nI j := root_v (by rw [iR]; exact bR)
  have rA : ∀ i, i < 500 → i ∉ A → ¬ rootOf (bt f A) = nI i := fun i h1 h2 => root_ne (by rw [iA]; exact bA) h1 (by rw [iA]; exact h2)
  have rR : ∀ i, i < 500 → i ∉ R → ¬ rootOf (bt f R) = nI i := fun i h1 h2 => root_ne (by rw [iR]; exact bR) h1 (by rw [iR]; exact h2)
  have rA' : ∀ i, i ∉ A → ¬ rootOf (bt f A) = nI i ∨ ¬ i < 500 := fun i h => by by_cases c : i < 500; exact Or.inl (rA i c h); exact Or.inr c
  -- the final memory at the ids of A, of R, at m, and elsewhere
  have tA : ∀ r i, i ∈ A → setM K4 6 m (rootOf (bt f R)) r i = setM K2 5 m (rootOf (bt f A)) r i := fun r i hi => by
    rw [setM_ne vR (by have := (hAR i hi).2; omega) (fun c => rR i (bA i hi) (hAR i hi).1 c.2), F4 r i (Or.inr ⟨(hAR i hi).1, bA i hi⟩)]
  have tA2 : ∀ r i, i ∈ A → ¬ (r = 7 ∧ rootOf (bt f A) = nI i) → setM K4 6 m (rootOf (bt f R)) r i = K2 r i := fun r i hi hr => by
    rw [tA r i hi, setM_ne vA (by have := (hAR i hi).2; omega) hr]
  have tR : ∀ r i, i ∈ R → ¬ (r = 7 ∧ rootOf (bt f R) = nI i) → setM K4 6 m (rootOf (bt f R)) r i = K4 r i := fun r i hi hr => setM_ne vR (by have := (hRA i hi).2; omega) hr
  refine ⟨⟨setM K4 6 m (rootOf (bt f R)) 7 m, rfl, ?_, setM_at (by decide), Enc_re (by rw [iA]; exact nA) (fun n hn => ?_) (by rw [iA]; exact bA) (fun n hn e => ?_) E2, Enc_re (by rw [iR]; exact nR) (fun n hn => ?_) (by rw [iR]; exact bR) (fun n hn e => ?_) E4⟩, ⟨?_, ColR_congr (fun x hx => ?_) C2, ColR_congr (fun x hx => ?_) C4⟩, fun r i hri => ?_⟩
  · rw [setM_ne vR (by omega) (by omega), F4 5 m (Or.inr ⟨nm, bm⟩), setM_at (by decide)]
  · rw [iA] at hn
    refine ⟨(tA2 5 n hn (by omega)).symm, (tA2 6 n hn (by omega)).symm, ?_⟩
    by_cases c : nI n = rootOf (bt f A)
    · exact Or.inl c
    · exact Or.inr (tA2 7 n hn (fun x => c x.2.symm)).symm
  · rw [iA] at hn
    rw [tA 7 n hn, e, setM_7 (bA n hn)]
  · rw [iR] at hn
    refine ⟨(tR 5 n hn (by omega)).symm, (tR 6 n hn (by omega)).symm, ?_⟩
    by_cases c : nI n = rootOf (bt f R)
    · exact Or.inl c
    · exact Or.inr (tR 7 n hn (fun x => c x.2.symm)).symm
  · rw [iR] at hn
    rw [e, setM_7 (bR n hn)]
  · rw [setM_ne vR (by omega) (by omega), F4 8 m (Or.inr ⟨nm, bm⟩), setM_ne vA (by omega) (by omega), F2 8 m (Or.inr ⟨mA, bm⟩), e1, up2_at, hv]
  · rw [iA] at hx; exact (tA2 8 x hx (by omega)).symm
  · rw [iR] at hx; exact (tR 8 x hx (by omega)).symm
  · rcases hri with h | h
    · rw [setM_ne vR (by omega) (by omega), F4 r i (Or.inl h), setM_ne vA (by omega) (by omega), F2 r i (Or.inl h), e1, up2_ne (by omega)]
    · have h5 := h.2
      have h := h.1
      have hiA : i ∉ A := fun x => h (List.mem_append_left _ x)
      have hiR : i ∉ R := fun x => h (List.mem_append_right _ (List.mem_cons_of_mem _ x))
      have him : i ≠ m := fun x => h (by rw [x]; simp)
      rw [setM_ne vR (by omega) (fun c => rR i h5 hiR c.2), F4 r i (Or.inr ⟨hiR, h5⟩), setM_ne vA (by omega) (fun c => rA i h5 hiA c.2), F2 r i (Or.inr ⟨hiA, h5⟩), e1, up2_ne (by omega)]
section BUILDC
variable {gB : AHp} {t b : Nat} {na : Nat → Nat} {D : Nat → Prop} {lim : Nat × Nat} {X : XT} {rd : Int32} {L : List Nat}
theorem C_build (hLD : ∀ x ∈ L, D x) (hLn : L.Nodup) : ∀ (f : Nat) (l A B : List Nat) (dep d : Nat) (g : AHp) (K : MT) (R : RT), L = A ++ (l ++ B) → CH K L → l.length < 2 ^ f → l.length ≤ 100 → dep + f ≤ 40 → f < d → CV gB g t b na D K → (∀ g' K', CV gB g' t b na D K' → BcP K K' l dep rd (bt f l) → R (some (vr (oa na (rootOf (bt f l))))) g') →
    WM lim d j_Tr_build [vr (oa na (hdI (l ++ B))), vi (nI l.length), vi (nI dep), vi rd] g R X := by
  intro f
  induction f with
  | zero =>
    intro l A B dep d g K R _ _ h _ _ _ V q
    have hl : l = [] := List.length_eq_zero_iff.mp (by rw [Nat.pow_zero] at h; omega)
    subst hl
    refine B_Tr_build_0 ?_
    rw [if_neg (show ¬ (0 : Int32) < nI ([] : List Nat).length by decide)]
    have := q g K V ⟨⟨0, trivial⟩, trivial, fun _ _ _ => rfl⟩
    rw [show oa na (rootOf (bt 0 [])) = none from oa_n] at this
    exact ⟨rfl, this⟩
  | succ f ih =>
    intro l A B dep d g K R hL CC h h100 hdep hd V q
    by_cases c : l = []
    · subst c
      refine B_Tr_build_0 ?_
      rw [if_neg (show ¬ (0 : Int32) < nI ([] : List Nat).length by decide)]
      rw [bt_nil] at q
      have := q g K V ⟨⟨0, trivial⟩, trivial, fun _ _ _ => rfl⟩
      rw [show oa na (rootOf (.leaf ())) = none from oa_n] at this
      exact ⟨rfl, this⟩
    · obtain ⟨Al, m, Rl, e, e1, e2, e3⟩ := bt_split c
      have hlp : 0 < l.length := List.length_pos_iff.mpr c
      rw [Nat.pow_succ] at h
      have hsub : ∀ x ∈ l, x ∈ L := fun x hx => by rw [hL]; exact List.mem_append_right _ (List.mem_append_left _ hx)
      have hlD : ∀ x ∈ l, D x := fun x hx => hLD x (hsub x hx)
      have hl5 : ∀ x ∈ l, x < 500 := fun x hx => V.lt (hlD x hx)
      have hm : D m := hlD m (by rw [e]; simp)
      have m5 := V.lt hm
      have hln : l.Nodup := by
        rw [hL] at hLn
        exact (List.nodup_append.mp (List.nodup_append.mp hLn).2.1).1
      rw [e3] at q
      refine B_Tr_build_0 ?_
      have hcmp : (0 : Int32) < nI l.length := by rw [← nI_0]; exact nI_lt hlp (by omega)
      have h40 : ¬ (40 : Int32) < nI dep := by rw [show (40 : Int32) = nI 40 from rfl]; exact nI_nlt (by omega) (by omega)
      have hdiv : nI l.length / 2 = nI Al.length := by
        have := nI_mid (a := 0) (b := l.length) (by omega)
        rw [nI_0, i32_comm, i32_zero, Nat.zero_add] at this
        rw [this, e1]
      rw [if_pos hcmp, if_neg h40, hdiv]
      refine ⟨by decide, ?_⟩
      -- the walk to the middle
      have walk : ∀ (Q P : List Nat), Al = P ++ Q → (WP lim d j_Tr_build 23 [some (vr (oa na (hdI (l ++ B)))), some (vi (nI l.length)), some (vi (nI dep)), some (vi rd), some (vi (nI Al.length)), some (vr (oa na (hdI (m :: Rl ++ B)))), some (vi (nI Al.length))] [] g R X) → WP lim d j_Tr_build 23 [some (vr (oa na (hdI (l ++ B)))), some (vi (nI l.length)), some (vi (nI dep)), some (vi rd), some (vi (nI Al.length)), some (vr (oa na (hdI (Q ++ (m :: Rl ++ B))))), some (vi (nI P.length))] [] g R X := by
        intro Q
        induction Q with
        | nil => intro P hP w; rw [List.append_nil] at hP; rw [← hP]; exact w
        | cons x Q ihq =>
          intro P hP w
          have hx : D x := hlD x (by rw [e, hP]; simp)
          have hAl : Al.length = P.length + (Q.length + 1) := by rw [hP, List.length_append, List.length_cons]
          have e41 : K 41 x = hdI (Q ++ (m :: Rl ++ B)) := (CH.at (A := A ++ P) (B := Q ++ (m :: Rl ++ B)) (by rw [show A ++ P ++ x :: (Q ++ (m :: Rl ++ B)) = L by rw [hL, e, hP]; simp]; exact CC)).2
          refine B_Tr_build_23 ?_
          rw [if_pos (nI_lt (by omega) (by omega)), show hdI (x :: Q ++ (m :: Rl ++ B)) = nI x from rfl, oa_s (V.lt hx), ifN_s, onR_s, (V.af hx).1, e41, nI_1]
          refine ⟨V.kn hx, ?_⟩
          have := ihq (P ++ [x]) (by rw [hP]; simp) w
          rw [show (P ++ [x]).length = P.length + 1 by simp] at this
          exact this
      have hstart : l ++ B = Al ++ (m :: Rl ++ B) := by rw [e]; simp
      have goal0 := walk Al [] rfl
      rw [← hstart, show nI ([] : List Nat).length = (0 : Int32) from rfl] at goal0
      refine goal0 ?_
      refine B_Tr_build_23 ?_
      rw [if_neg (nI_nlt (Nat.le_refl _) (by omega)), show hdI (m :: Rl ++ B) = nI m from rfl, oa_s m5, ifN_s]
      -- what follows once the colour is set
      have tail : ∀ v : Int32, b01 v → (v = if nI dep = rd then 1 else 0) → (hk g (na m) = 2 ∧ b01 v ∧ 0 < d ∧ WM lim (d - 1) j_Tr_build [vr (oa na (hdI (l ++ B))), vi (nI Al.length), vi (nI dep + (1 : Int32)), vi rd] (sI g (na m) 5 v) (fun v28 h27 => onO v28 fun o29 => onR (some (na m)) fun a30 => (∀ q ∈ [((0 : Int), (2 : Nat))], hk h27 a30 = q.2) ∧ 0 < d ∧ WM lim (d - 1) j_No_setLeft [vr (some a30), vr o29] h27 (fun _ h31 => onR (some (na m)) fun a32 => hk h31 a32 = 2 ∧ 0 < d ∧ WM lim (d - 1) j_Tr_build [vr (hP h31 a32 10), vi ((nI l.length - nI Al.length) - (1 : Int32)), vi (nI dep + (1 : Int32)), vi rd] h31 (fun v34 h33 => onO v34 fun o35 => onR (some (na m)) fun a36 => (∀ q ∈ [((0 : Int), (2 : Nat))], hk h33 a36 = q.2) ∧ 0 < d ∧ WM lim (d - 1) j_No_setRight [vr (some a36), vr o35] h33 (fun _ h37 => ([] : List AV) = [] ∧ R (some (vr (some (na m)))) h37) X) X) X) X) := by
        intro v hv hv2
        have V1 : CV gB (sI g (na m) 5 v) t b na D (up2 K 8 m v) := V.wnI (k := 5) hm (by decide) v
        have hAD : ∀ x ∈ ino (bt f Al), D x := by rw [ino_bt f Al (by omega)]; exact fun x hx => hlD x (by rw [e]; exact List.mem_append_left _ hx)
        have hRD : ∀ x ∈ ino (bt f Rl), D x := by rw [ino_bt f Rl (by omega)]; exact fun x hx => hlD x (by rw [e]; exact List.mem_append_right _ (List.mem_cons_of_mem _ hx))
        rw [hstart, nI_1, show nI l.length - nI Al.length - 1 = nI Rl.length by rw [nI_sub (by omega), show (1 : Int32) = nI 1 from rfl, nI_sub (by omega)]; congr 1; omega]
        refine ⟨V.kn hm, hv, by omega, ih Al A (m :: Rl ++ B) (dep + 1) (d - 1) _ _ _ (by rw [hL, e]; simp) (CC.congr (fun i _ => ⟨up2_ne (by omega), up2_ne (by omega)⟩) (up2_ne (by omega)) (up2_ne (by omega))) (by omega) (by omega) (by omega) (by omega) V1 (fun g2 K2 V2 B2 => onO_v ?_)⟩
        rw [onR_s]
        refine ⟨all1.mpr (V2.kn hm), by omega, C_setLeft V2 hm (root_pd hAD) rfl (fun g3 V3 => ?_)⟩
        have vA : rootOf (bt f Al) = -1 ∨ ∃ j, j < 500 ∧ rootOf (bt f Al) = nI j := root_v (fun x hx => V.lt (hAD x hx))
        have o3 : ∀ r i, (r ≠ 5 ∧ r ≠ 6 ∧ r ≠ 7 ∧ r ≠ 8) → setM K2 5 m (rootOf (bt f Al)) r i = K r i := fun r i hr => by
          rw [setM_ne vA (by omega) (by omega), B2.2.2 r i (Or.inl hr)]; exact up2_ne (by show ¬ (r = 8 ∧ _); omega)
        have C3 : CH (setM K2 5 m (rootOf (bt f Al))) L := CC.congr (fun i _ => ⟨o3 40 i (by omega), o3 41 i (by omega)⟩) (o3 43 0 (by omega)) (o3 43 1 (by omega))
        have e41 : setM K2 5 m (rootOf (bt f Al)) 41 m = hdI (Rl ++ B) := (CH.at (A := A ++ Al) (B := Rl ++ B) (by rw [show A ++ Al ++ m :: (Rl ++ B) = L by rw [hL, e]; simp]; exact C3)).2
        rw [onR_s, (V3.af hm).1, e41]
        refine ⟨V3.kn hm, by omega, ih Rl (A ++ Al ++ [m]) B (dep + 1) (d - 1) _ _ _ (by rw [hL, e]; simp) C3 (by omega) (by omega) (by omega) (by omega) V3 (fun g4 K4 V4 B4 => onO_v ?_)⟩
        rw [onR_s]
        refine ⟨all1.mpr (V4.kn hm), by omega, C_setRight V4 hm (root_pd hRD) rfl (fun g5 V5 => ⟨rfl, ?_⟩)⟩
        have := q g5 _ V5 (by rw [e]; exact Bc_join (by omega) (by omega) (by rw [← e]; exact hln) (by rw [← e]; exact hl5) hv2 rfl B2 B4)
        rw [show rootOf (.branch m (bt f Al) (bt f Rl)) = nI m from rfl, oa_s m5] at this
        exact this
      by_cases cr : nI dep = rd
      · rw [if_pos cr]; exact tail 1 b01_1 (by rw [if_pos cr])
      · rw [if_neg cr]; exact tail 0 b01_0 (by rw [if_neg cr])
end BUILDC
