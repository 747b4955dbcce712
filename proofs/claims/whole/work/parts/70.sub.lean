/-! ===== subtrees ===== -/
def subT : Tr → Nat → Tr
  | .leaf u, _ => .leaf u
  | .branch n l r, i => if n = i then .branch n l r else if i ∈ ino l then subT l i else subT r i
theorem subT_plug : ∀ (T : Tr) (i : Nat), i ∈ ino T → ∃ a b cx, subT T i = .branch i a b ∧ ∀ cx0, plug (.branch i a b) (cx ++ cx0) = plug T cx0 := by
  intro T
  induction T with
  | leaf _ => intro i h; cases h
  | branch n l r hl hr =>
    intro i h
    have e : subT (.branch n l r) i = if n = i then .branch n l r else if i ∈ ino l then subT l i else subT r i := rfl
    by_cases c : n = i
    · subst c; exact ⟨l, r, [], by rw [e, if_pos rfl], fun cx0 => rfl⟩
    · rw [e, if_neg c]
      by_cases c2 : i ∈ ino l
      · rw [if_pos c2]
        obtain ⟨a, b, cx, e1, e2⟩ := hl i c2
        refine ⟨a, b, cx ++ [(true, n, r)], e1, fun cx0 => ?_⟩
        rw [List.append_assoc]; exact e2 _
      · rw [if_neg c2]
        have hi : i ∈ ino r := by
          rcases List.mem_append.mp h with h | h
          · exact (c2 h).elim
          · exact (List.mem_cons.mp h).resolve_left (fun e => c e.symm)
        obtain ⟨a, b, cx, e1, e2⟩ := hr i hi
        refine ⟨a, b, cx ++ [(false, n, l)], e1, fun cx0 => ?_⟩
        rw [List.append_assoc]; exact e2 _
theorem subT_zip {M : MT} {T : Tr} {i : Nat} (e : EncZ M T []) (hi : i ∈ ino T) : ∃ a b cx, subT T i = .branch i a b ∧ plug (.branch i a b) cx = T ∧ EncZ M (.branch i a b) cx := by
  obtain ⟨a, b, cx, e1, e2⟩ := subT_plug T i hi
  have := e2 []
  rw [List.append_nil] at this
  have h : plug (.branch i a b) cx = T := this
  exact ⟨a, b, cx, e1, h, EncZ_plug.mpr (by rw [h]; exact e)⟩
def pre : Tr → List Nat
  | .leaf _ => []
  | .branch n l r => n :: (pre l ++ pre r)
theorem pre_perm : ∀ t : Tr, (pre t).Perm (ino t) := by
  intro t
  induction t with
  | leaf _ => exact List.Perm.refl _
  | branch n l r hl hr =>
    show (n :: (pre l ++ pre r)).Perm (ino l ++ n :: ino r)
    exact (List.Perm.cons n (hl.append hr)).trans List.perm_middle.symm
def gm (M : MT) (f : Nat → Int32) : List Nat → Int32 → Int32
  | [], m => m
  | a :: l, m => gm M f l (if M 4 a = 0 then (if m < f a then f a else m) else m)
theorem gm_app {M : MT} {f : Nat → Int32} : ∀ (l l' : List Nat) (m : Int32), gm M f (l ++ l') m = gm M f l' (gm M f l m) := by
  intro l
  induction l with
  | nil => intro l' m; rfl
  | cons a l ih => intro l' m; exact ih l' _
theorem mx_swap (m a b : Int32) : (if (if m < a then a else m) < b then b else (if m < a then a else m)) = (if (if m < b then b else m) < a then a else (if m < b then b else m)) := by
  have h : ∀ p q : Int32, (if p < q then q else p).toInt = max p.toInt q.toInt := fun p q => by
    by_cases c : p < q
    · rw [if_pos c]; rw [i_lt] at c; omega
    · rw [if_neg c]; rw [i_lt] at c; omega
  rw [i_eq, h, h, h, h]; omega
theorem gm_perm {M : MT} {f : Nat → Int32} {l l' : List Nat} (h : l.Perm l') : ∀ m, gm M f l m = gm M f l' m := by
  induction h with
  | nil => intro m; rfl
  | cons x _ ih => intro m; exact ih _
  | swap x y l =>
    intro m
    show gm M f l _ = gm M f l _
    congr 1
    by_cases c1 : M 4 x = 0
    · by_cases c2 : M 4 y = 0
      · rw [if_pos c1, if_pos c2, if_pos c2, if_pos c1]; exact mx_swap m (f y) (f x)
      · rw [if_pos c1, if_neg c2, if_neg c2, if_pos c1]
    · by_cases c2 : M 4 y = 0
      · rw [if_neg c1, if_pos c2, if_pos c2, if_neg c1]
      · rw [if_neg c1, if_neg c2, if_neg c2, if_neg c1]
  | trans _ _ h1 h2 => intro m; exact (h1 m).trans (h2 m)
def vH (M : MT) (x : Int32) (a : Nat) : Int32 := if x = 0 then M 3 a else M 2 a
section SUBR
variable {z : Nat × Nat} {M : MT} {N : Nat} {x y : Int32} {T : Tr} {W : Int} {d : Nat} {Q : Option AV → MT → Prop}
theorem S_greatest : ∀ (t : Tr) (d : Nat) (up v : Int32) (Q : Option AV → MT → Prop), Enc M up t → (∀ n ∈ ino t, n < 500) → tht t < d → Q none (up2 M 0 20 (gm M (vH M y) (pre t) v)) → WQ z d j_Mo_greatest [vr (some 0), vi (rootOf t), vi y] (up2 M 0 20 v) Q := by
  intro t
  induction t with
  | leaf u => intro d up v Q _ _ _ q; exact M_greatest_0 (by rw [if_pos (show rootOf (.leaf u) = (-1 : Int32) from rfl)]; exact q)
  | branch n l r hl hr =>
    intro d up v Q e hb hd q
    have hd : 1 + max (tht l) (tht r) < d := hd
    have n5 : n < 500 := hb n (by show n ∈ ino l ++ n :: ino r; simp)
    have xn : ix (nI n) 500 := ix_nI n5 (by decide)
    have bl : ∀ k ∈ ino l, k < 500 := fun k h => hb k (List.mem_append_left _ h)
    have br : ∀ k ∈ ino r, k < 500 := fun k h => hb k (List.mem_append_right _ (List.mem_cons_of_mem _ h))
    have q : Q none (up2 M 0 20 (gm M (vH M y) (pre l ++ pre r) (if M 4 n = 0 then (if v < vH M y n then vH M y n else v) else v))) := q
    rw [gm_app] at q
    have next : ∀ v', Q none (up2 M 0 20 (gm M (vH M y) (pre r) (gm M (vH M y) (pre l) v'))) → ix (nI n) 500 ∧ 0 < d ∧ WQ z (d - 1) j_Mo_greatest [vr (some 0), vi (rootOf l), vi y] (up2 M 0 20 v') (fun _ M8 => ix (nI n) 500 ∧ 0 < d ∧ WQ z (d - 1) j_Mo_greatest [vr (some 0), vi (M8 6 n), vi y] M8 (fun _ M11 => Q none M11)) := by
      intro v' q'
      refine ⟨xn, by omega, hl (d - 1) _ v' _ e.2.2.2.1 bl (by omega) ⟨xn, by omega, ?_⟩⟩
      rw [up2_ne (by omega), e.2.2.1]
      exact hr (d - 1) _ _ _ e.2.2.2.2 br (by omega) q'
    refine M_greatest_0 ?_
    rw [show rootOf (.branch n l r) = nI n from rfl, if_neg (nI_m1 (by omega)), nI_clamp (by omega), up2_ne (show ¬ (4 = 0 ∧ n = 20) by omega), up2_at]
    refine ⟨xn, ?_⟩
    by_cases c : M 4 n = 0
    · rw [if_pos c] at q ⊢
      by_cases cy : y = 0
      · rw [if_pos cy]
        refine ⟨xn, fun M7 e7 => ?_⟩
        rw [up2_ne (show ¬ (3 = 0 ∧ n = 20) by omega), up2_same] at e7
        have hv : vH M y n = M 3 n := by unfold vH; rw [if_pos cy]
        rw [hv] at q
        rw [e7, up2_ne (show ¬ (5 = 0 ∧ n = 20) by omega), e.2.1]
        exact next _ q
      · rw [if_neg cy]
        refine ⟨xn, fun M7 e7 => ?_⟩
        rw [up2_ne (show ¬ (2 = 0 ∧ n = 20) by omega), up2_same] at e7
        have hv : vH M y n = M 2 n := by unfold vH; rw [if_neg cy]
        rw [hv] at q
        rw [e7, up2_ne (show ¬ (5 = 0 ∧ n = 20) by omega), e.2.1]
        exact next _ q
    · rw [if_neg c] at q ⊢
      rw [up2_ne (show ¬ (5 = 0 ∧ n = 20) by omega), e.2.1]
      exact next _ q
def szS (M : MT) (T : Tr) (i : Nat) : Int32 := isum (fun a => if M 4 a = 0 then 1 else 0) (ino (subT T i))
theorem in_tree (I : TI M T N W) (h1 : ix x N) (h2 : M 4 x.toNatClampNeg < 2) : ∃ i, i ∈ ino T ∧ x = nI i := by
  have hN := I.2.1
  obtain ⟨i, hi, rfl⟩ := ix_ex h1 (by omega)
  rw [nI_clamp (by omega)] at h2
  exact ⟨i, (I.2.2.2.2.1 i).mpr ⟨hi, fun e => by rw [e] at h2; exact absurd h2 (by decide)⟩, rfl⟩
theorem TI.low (I : TI M T N W) : tht T ≤ 13 := by
  obtain ⟨k, B⟩ := I.2.2.1.2.2.1
  exact RB_low B (by rw [← tsz_ino]; exact I.2.2.2.2.2.2.2.2.2.1)
theorem tht_plug : ∀ (cx : Zc) (t : Tr), tht t ≤ tht (plug t cx) := by
  intro cx
  induction cx with
  | nil => intro t; exact Nat.le_refl _
  | cons f cx ih =>
    intro t
    obtain ⟨bb, p, s⟩ := f
    cases bb with
    | true => exact Nat.le_trans (by show tht t ≤ 1 + max (tht t) (tht s); omega) (ih (.branch p t s))
    | false => exact Nat.le_trans (by show tht t ≤ 1 + max (tht s) (tht t); omega) (ih (.branch p s t))
theorem S_sub1 (I : TI M T N W) {i : Nat} (hi : i ∈ ino T) : ∃ up, Enc M up (subT T i) ∧ rootOf (subT T i) = nI i ∧ (∀ n ∈ ino (subT T i), n < 500) ∧ tht (subT T i) ≤ 13 := by
  obtain ⟨a, b, cx, e1, e2, e3⟩ := subT_zip I.2.2.1.1 hi
  refine ⟨upOf cx, ?_, by rw [e1]; rfl, fun n hn => ?_, ?_⟩
  · rw [e1]; exact e3.1
  · rw [e1] at hn
    exact (I.lt (by rw [← e2]; exact (plug_perm _ _).mem_iff.mpr (List.mem_append_left _ hn))).2
  · rw [e1]; have := tht_plug cx (.branch i a b); rw [e2] at this; have := I.low; omega
theorem S_subtreeSize (I : TI M T N W) (hd : 16 < d) (q1 : ¬ (ix x N ∧ M 4 x.toNatClampNeg < 2) → Q (some (vi 0)) (thn M 1)) (q2 : ∀ i, i ∈ ino T → x = nI i → Q (some (vi (szS M T i))) (thn M 0)) : WQ z d j_Mo_subtreeSize [vr (some 0), vi x] M Q := by
  have I0 : TI (thn M 0) T N W := TI_thn I
  refine M_subtreeSize_0 ⟨by omega, S_isInTree (N := N) I0.1 I.2.1 (by omega) (fun h1 h2 => onI_1 ⟨by omega, ?_⟩) (fun h => onI_0 (S_fails' (by omega) (q1 (fun c => h ⟨c.1, by rw [up2_ne (by omega)]; exact c.2⟩))))⟩
  obtain ⟨i, hi, e⟩ := in_tree I0 h1 h2
  subst e
  obtain ⟨up, e1, e2, e3, e4⟩ := S_sub1 I0 hi
  rw [← e2]
  refine S_sizeOf (subT T i) (d - 1) up _ e1 e3 (by omega) ?_
  have := q2 i hi rfl
  unfold szS at this
  rw [isum_congr (f' := fun a => if M 4 a = 0 then 1 else 0) (fun a _ => by rw [up2_ne (by omega)])]
  exact this
def grS (M : MT) (T : Tr) (y : Int32) (i : Nat) : Int32 := gm M (vH M y) (ino (subT T i)) (-2147483648)
theorem S_greatestOf (I : TI M T N W) (hd : 16 < d) (q1 : ¬ (ix x N ∧ M 4 x.toNatClampNeg < 2) → Q (some (vi 0)) (thn M 1)) (q2 : ∀ i, i ∈ ino T → x = nI i → szS M T i = 0 → Q (some (vi 0)) (thn M 2)) (q3 : ∀ i, i ∈ ino T → x = nI i → ¬ szS M T i = 0 → Q (some (vi (grS M T y i))) (up2 (thn M 0) 0 20 (grS M T y i))) : WQ z d j_Mo_greatestOf [vr (some 0), vi x, vi y] M Q := by
  have I0 : TI (thn M 0) T N W := TI_thn I
  refine M_greatestOf_0 ⟨by omega, S_isInTree (N := N) I0.1 I.2.1 (by omega) (fun h1 h2 => onI_1 ⟨by omega, ?_⟩) (fun h => onI_0 (S_fails' (by omega) (q1 (fun c => h ⟨c.1, by rw [up2_ne (by omega)]; exact c.2⟩))))⟩
  obtain ⟨i, hi, e⟩ := in_tree I0 h1 h2
  subst e
  obtain ⟨up, e1, e2, e3, e4⟩ := S_sub1 I0 hi
  rw [← e2]
  refine S_sizeOf (subT T i) (d - 1) up _ e1 e3 (by omega) ?_
  rw [isum_congr (f' := fun a => if M 4 a = 0 then 1 else 0) (fun a _ => by rw [up2_ne (by omega)])]
  show (if szS M T i = 0 then _ else _)
  by_cases c : szS M T i = 0
  · rw [if_pos c]; exact S_fails' (by omega) (q2 i hi rfl c)
  · rw [if_neg c]
    refine ⟨by omega, S_greatest (M := thn M 0) (subT T i) (d - 1) up _ _ e1 e3 (by omega) ?_⟩
    have hv : vH (thn M 0) y = vH M y := by funext a; unfold vH; rw [thn_ne (by decide), thn_ne (by decide)]
    have hgm : ∀ (l : List Nat) (m : Int32), gm (thn M 0) (vH (thn M 0) y) l m = gm M (vH M y) l m := by
      rw [hv]
      intro l
      induction l with
      | nil => intro m; rfl
      | cons a l ih =>
        intro m
        show gm (thn M 0) (vH M y) l (if thn M 0 4 a = 0 then (if m < vH M y a then vH M y a else m) else m) = gm M (vH M y) l (if M 4 a = 0 then (if m < vH M y a then vH M y a else m) else m)
        rw [ih, thn_ne (by decide)]
    rw [hgm, gm_perm (pre_perm _), up2_at]
    exact q3 i hi rfl c
end SUBR
section SUBC
variable {g : AHp} {c t b : Nat} {na : Nat → Nat} {K : MT} {T : Tr} {N : Nat} {W : Int} {lim : Nat × Nat} {d : Nat} {R : RT} {X : XT} {x y : Int32}
theorem laI_b {n : Nat} {l r : Tr} : laI (ino (.branch n l r)) = if ino r = [] then nI n else laI (ino r) := by
  rw [ino_b]
  split
  · rename_i h; rw [h, laI_app]
  · rename_i h
    rcases List.eq_nil_or_concat (ino r) with q | ⟨a, z, q⟩
    · exact (h q).elim
    · rw [q, List.concat_eq_append, laI_app, show ino l ++ n :: (a ++ [z]) = (ino l ++ n :: a) ++ [z] by simp, laI_app]
theorem hdI_b {n : Nat} {l r : Tr} : hdI (ino (.branch n l r)) = if ino l = [] then nI n else hdI (ino l) := by
  rw [ino_b]
  cases ino l with
  | nil => rfl
  | cons a s => rfl
theorem ino_nil {t : Tr} (h : ino t = []) : rootOf t = -1 := by
  cases t with
  | leaf _ => rfl
  | branch n l r => rw [ino_b] at h; simp at h
theorem C_lm4 (V : CV g g t b na (fun i => i ∈ ino T) K) {a : Nat} : ∀ (tt : Tr) (up : Int32) (o : Option Nat), Enc K up tt → (∀ z ∈ ino tt, z ∈ ino T) → R (some (vr (if ino tt = [] then o else oa na (hdI (ino tt))))) g → WP lim d j_No_leftmost 4 [some (vr (some a)), some (vr o), some (vr (oa na (rootOf tt)))] [] g R X := by
  intro tt
  induction tt with
  | leaf u => intro up o _ _ q; exact B_No_leftmost_4 (by rw [show rootOf (.leaf u) = (-1 : Int32) from rfl, oa_n]; exact ⟨rfl, q⟩)
  | branch n l r hl hr =>
    intro up o e hs q
    have hn : n ∈ ino T := hs n (by show n ∈ ino l ++ n :: ino r; simp)
    rw [if_neg (by rw [ino_b]; simp), hdI_b] at q
    refine B_No_leftmost_4 ?_
    rw [show rootOf (.branch n l r) = nI n from rfl, oa_s (V.lt hn), ifN_s, onR_s, (V.le hn).1, e.2.1]
    refine ⟨V.kn hn, hl _ _ e.2.2.2.1 (fun z hz => hs z (List.mem_append_left _ hz)) ?_⟩
    split
    · rename_i h; rw [if_pos h, oa_s (V.lt hn)] at q; exact q
    · rename_i h; rw [if_neg h] at q; exact q
theorem C_rm4 (V : CV g g t b na (fun i => i ∈ ino T) K) {a : Nat} : ∀ (tt : Tr) (up : Int32) (o : Option Nat), Enc K up tt → (∀ z ∈ ino tt, z ∈ ino T) → R (some (vr (if ino tt = [] then o else oa na (laI (ino tt))))) g → WP lim d j_No_rightmost 4 [some (vr (some a)), some (vr o), some (vr (oa na (rootOf tt)))] [] g R X := by
  intro tt
  induction tt with
  | leaf u => intro up o _ _ q; exact B_No_rightmost_4 (by rw [show rootOf (.leaf u) = (-1 : Int32) from rfl, oa_n]; exact ⟨rfl, q⟩)
  | branch n l r hl hr =>
    intro up o e hs q
    have hn : n ∈ ino T := hs n (by show n ∈ ino l ++ n :: ino r; simp)
    rw [if_neg (by rw [ino_b]; simp), laI_b] at q
    refine B_No_rightmost_4 ?_
    rw [show rootOf (.branch n l r) = nI n from rfl, oa_s (V.lt hn), ifN_s, onR_s, (V.ri hn).1, e.2.2.1]
    refine ⟨V.kn hn, hr _ _ e.2.2.2.2 (fun z hz => hs z (List.mem_append_right _ (List.mem_cons_of_mem _ hz))) ?_⟩
    split
    · rename_i h; rw [if_pos h, oa_s (V.lt hn)] at q; exact q
    · rename_i h; rw [if_neg h] at q; exact q
/-- a subtree's ends, and what follows it on the chain -/
theorem C_ends (O : RO g c t b na K T N W) {i : Nat} (hi : i ∈ ino T) (hd : 0 < d) {F : Option Nat → Option Nat → AHp → Prop} (q : ∀ A B, ino T = A ++ (ino (subT T i) ++ B) → F (oa na (hdI B)) (oa na (hdI (ino (subT T i) ++ B))) g) :
    (∀ q ∈ [((0 : Int), (2 : Nat))], hk g (na i) = q.2) ∧ 0 < d ∧ WM lim (d - 1) j_No_rightmost [vr (some (na i))] g (fun v3 h2 => onO v3 fun o4 => onR o4 fun a5 => hk h2 a5 = 2 ∧ (∀ q ∈ [((0 : Int), (2 : Nat))], hk h2 (na i) = q.2) ∧ 0 < d ∧ WM lim (d - 1) j_No_leftmost [vr (some (na i))] h2 (fun v8 h7 => onO v8 fun o9 => F (hP h2 a5 10) o9 h7) X) X := by
  obtain ⟨a', b', cx, e1, e2, e3⟩ := subT_zip O.2.2.1.2.2.1.1 hi
  have hsub : ∀ z ∈ ino (.branch i a' b'), z ∈ ino T := fun z hz => by rw [← e2]; exact (plug_perm _ _).mem_iff.mpr (List.mem_append_left _ hz)
  have hino : ino T = lfs cx ++ (ino (subT T i) ++ rgs cx) := by rw [e1, ← ino_plug, e2]
  have hq := q (lfs cx) (rgs cx) hino
  rw [e1] at hq hino
  have hne : ¬ ino (.branch i a' b') = [] := by rw [ino_b]; simp
  have i5 := O.2.1.lt hi
  refine ⟨all1.mpr (O.2.1.kn hi), hd, B_No_rightmost_0 ?_⟩
  have hr := C_rm4 (lim := lim) (d := d - 1) (X := X) (a := na i) (R := fun v3 h2 => onO v3 fun o4 => onR o4 fun a5 => hk h2 a5 = 2 ∧ (∀ q ∈ [((0 : Int), (2 : Nat))], hk h2 (na i) = q.2) ∧ 0 < d ∧ WM lim (d - 1) j_No_leftmost [vr (some (na i))] h2 (fun v8 h7 => onO v8 fun o9 => F (hP h2 a5 10) o9 h7) X) O.2.1 (.branch i a' b') _ (some (na i)) e3.1 hsub (by
    rw [if_neg hne]
    rcases List.eq_nil_or_concat (ino (.branch i a' b')) with z | ⟨Z, z, hz⟩
    · exact (hne z).elim
    · rw [List.concat_eq_append] at hz
      have hzT : z ∈ ino T := hsub z (by rw [hz]; simp)
      have e41 : K 41 z = hdI (rgs cx) := (CH.at (A := lfs cx ++ Z) (B := rgs cx) (by rw [show lfs cx ++ Z ++ z :: rgs cx = ino T by rw [hino, hz]; simp]; exact O.2.2.2.1)).2
      rw [hz, laI_app, oa_s (O.2.1.lt hzT)]
      show hk g (na z) = 2 ∧ _
      refine ⟨O.2.1.kn hzT, all1.mpr (O.2.1.kn hi), hd, B_No_leftmost_0 ?_⟩
      have hl := C_lm4 (lim := lim) (d := d - 1) (X := X) (a := na i) (R := fun v8 h7 => onO v8 fun o9 => F (hP g (na z) 10) o9 h7) O.2.1 (.branch i a' b') _ (some (na i)) e3.1 hsub (by
        rw [if_neg hne]
        refine onO_v ?_
        rw [(O.2.1.af hzT).1, e41]
        rw [show hdI (ino (.branch i a' b')) = hdI (ino (.branch i a' b') ++ rgs cx) by cases hh : ino (.branch i a' b') with | nil => exact (hne hh).elim | cons p s => rfl]
        exact hq)
      rw [show rootOf (.branch i a' b') = nI i from rfl, oa_s i5] at hl
      exact hl)
  rw [show rootOf (.branch i a' b') = nI i from rfl, oa_s i5] at hr
  exact hr
theorem end_ne (O : RO g c t b na K T N W) {A S B : List Nat} {j : Nat} (h : ino T = A ++ (j :: S ++ B)) : ¬ some (na j) = oa na (hdI B) := by
  have hj : j ∈ ino T := by rw [h]; simp
  intro e
  have hB : ∀ z ∈ B, z ∈ ino T := fun z hz => by rw [h]; simp [hz]
  have := (O.2.1.oeq (hdI_pd hB) hj).mp e.symm
  cases B with
  | nil => exact nI_m1 (n := j) (by have := O.2.1.lt hj; omega) this.symm
  | cons y ys =>
    have hy := nI_inj (O.2.1.lt (hB y List.mem_cons_self)) (O.2.1.lt hj) this
    have hnd := O.2.2.1.nodup
    rw [h, List.nodup_append] at hnd
    have h2 := hnd.2.1
    rw [List.cons_append, List.nodup_cons] at h2
    exact h2.1 (by rw [← hy]; simp)
theorem C_ss23 (O : RO g c t b na K T N W) {o2 : Option Nat} {A B Z : List Nat} (hZ : ino T = A ++ (Z ++ B)) : ∀ (S P : List Nat) (acc : Int32), Z = P ++ S → R (some (vi (acc + isum (fun a => if K 4 a = 0 then 1 else 0) S))) g → WP lim d j_It_subtreeSize 23 [some (vr (some c)), some (vi x), some (vr o2), some (vr (oa na (hdI B))), some (vi acc), some (vr (oa na (hdI (S ++ B))))] [] g R X := by
  intro S
  induction S with
  | nil =>
    intro P acc _ q
    rw [show isum _ [] = (0 : Int32) from rfl, i32_zero] at q
    refine B_It_subtreeSize_23 ?_
    rw [List.nil_append]
    cases oa na (hdI B) with
    | none => exact ⟨rfl, q⟩
    | some a => rw [ifN_s, if_pos rfl]; exact ⟨rfl, q⟩
  | cons j S ih =>
    intro P acc h q
    have hT : ino T = (A ++ P) ++ (j :: S ++ B) := by rw [hZ, h]; simp
    have hj : j ∈ ino T := by rw [hT]; simp
    have e41 : K 41 j = hdI (S ++ B) := (CH.at (A := A ++ P) (B := S ++ B) (by rw [show A ++ P ++ j :: (S ++ B) = ino T by rw [hT]; simp]; exact O.2.2.2.1)).2
    rw [show isum (fun a => if K 4 a = 0 then (1 : Int32) else 0) (j :: S) = (if K 4 j = 0 then 1 else 0) + isum (fun a => if K 4 a = 0 then 1 else 0) S from rfl, ← i32_assoc] at q
    refine B_It_subtreeSize_23 ?_
    rw [show hdI (j :: S ++ B) = nI j from rfl, oa_s (O.2.1.lt hj), ifN_s, if_neg (end_ne O hT)]
    simp only [onR_s, O.2.1.st hj, (O.2.1.af hj).1, e41]
    refine ⟨O.2.1.kn hj, ?_⟩
    by_cases c0 : K 4 j = 0
    · rw [if_pos c0] at q ⊢; exact ⟨O.2.1.kn hj, ih (P ++ [j]) _ (by rw [h]; simp) q⟩
    · rw [if_neg c0] at q ⊢; exact ⟨O.2.1.kn hj, ih (P ++ [j]) _ (by rw [h]; simp) q⟩
theorem C_subtreeSize (O : RO g c t b na K T N W) (hd : 2 < d) (q1 : ¬ (ix x N ∧ K 4 x.toNatClampNeg < 2) → thr lim X 3 g) (q2 : ∀ i, i ∈ ino T → x = nI i → R (some (vi (szS K T i))) g) : WM lim d j_It_subtreeSize [vr (some c), vi x] g R X := by
  refine B_It_subtreeSize_0 ⟨all1.mpr O.1.1, by omega, C_present O (by omega) (fun i hi e => onO_v ?_) q1⟩
  simp only [onR_s]
  exact C_ends O hi (by omega) (F := fun o3 o5 h => WP lim d j_It_subtreeSize 23 [some (vr (some c)), some (vi x), some (vr (some (na i))), some (vr o3), some (vi 0), some (vr o5)] [] h R X) (fun A B hAB => C_ss23 O hAB (ino (subT T i)) [] 0 rfl (by rw [i32_comm, i32_zero]; exact q2 i hi e))
theorem C_value (V : CV g g t b na (fun i => i ∈ ino T) K) {j : Nat} (hj : j ∈ ino T) (hy : y = 1 ∨ y = 2) (q : R (some (vi (if y = 1 then K 2 j else K 3 j))) g) : WM lim d j_No_valueOf [vr (some (na j)), vi y] g R X := by
  refine B_No_valueOf_0 ?_
  rcases hy with rfl | rfl
  · rw [if_neg (by decide), if_pos rfl, V.hi hj]; rw [if_pos rfl] at q; exact ⟨V.kn hj, rfl, q⟩
  · rw [if_neg (by decide), if_neg (by decide), if_pos rfl, V.we hj]; rw [if_neg (by decide)] at q; exact ⟨V.kn hj, rfl, q⟩
/-- 1 for the high ends, 2 for the weights, as the reference's 1 and 0 -/
def yR (y : Int32) : Int32 := if y = 1 then 1 else 0
theorem C_gr20 (O : RO g c t b na K T N W) (hd : 0 < d) (hy : y = 1 ∨ y = 2) {o0 : Option Nat} {A B Z : List Nat} (hZ : ino T = A ++ (Z ++ B)) (q1 : (∀ j ∈ Z, ¬ K 4 j = 0) → thr lim X 2 g) (q2 : ¬ (∀ j ∈ Z, ¬ K 4 j = 0) → R (some (vi (gm K (vH K (yR y)) Z (-2147483648)))) g) : ∀ (S P : List Nat), Z = P ++ S → WP lim d j_It_greatestInSubtree 20 [some (vr o0), some (vi y), some (vr (oa na (hdI B))), some (vi (if (∀ j ∈ P, ¬ K 4 j = 0) then 0 else 1)), some (vi (gm K (vH K (yR y)) P (-2147483648))), some (vr (oa na (hdI (S ++ B))))] [] g R X := by
  have hv : ∀ j, (if y = 1 then K 2 j else K 3 j) = vH K (yR y) j := fun j => by
    unfold vH yR
    rcases hy with rfl | rfl
    · rfl
    · rfl
  intro S
  induction S with
  | nil =>
    intro P h
    rw [List.append_nil] at h
    refine B_It_greatestInSubtree_20 ?_
    rw [List.nil_append, ← h]
    have fin : (if (if (∀ j ∈ Z, ¬ K 4 j = 0) then (0 : Int32) else 1) = 0 then (([] : List AV) = [] ∧ thr lim X 2 g) else (([] : List AV) = [] ∧ R (some (vi (gm K (vH K (yR y)) Z (-2147483648)))) g)) := by
      by_cases hc : ∀ j ∈ Z, ¬ K 4 j = 0
      · rw [if_pos hc, if_pos rfl]; exact ⟨rfl, q1 hc⟩
      · rw [if_neg hc, if_neg (by decide)]; exact ⟨rfl, q2 hc⟩
    cases oa na (hdI B) with
    | none => exact fin
    | some a => rw [ifN_s, if_pos rfl]; exact fin
  | cons j S ih =>
    intro P h
    have hT : ino T = (A ++ P) ++ (j :: S ++ B) := by rw [hZ, h]; simp
    have hj : j ∈ ino T := by rw [hT]; simp
    have e41 : K 41 j = hdI (S ++ B) := (CH.at (A := A ++ P) (B := S ++ B) (by rw [show A ++ P ++ j :: (S ++ B) = ino T by rw [hT]; simp]; exact O.2.2.2.1)).2
    have nx := ih (P ++ [j]) (by rw [h]; simp)
    rw [gm_app] at nx
    refine B_It_greatestInSubtree_20 ?_
    rw [show hdI (j :: S ++ B) = nI j from rfl, oa_s (O.2.1.lt hj), ifN_s, if_neg (end_ne O hT)]
    simp only [onR_s, O.2.1.st hj, (O.2.1.af hj).1, e41, all1]
    refine ⟨O.2.1.kn hj, ?_⟩
    by_cases c0 : K 4 j = 0
    · rw [if_neg (show ¬ ∀ i ∈ P ++ [j], ¬ K 4 i = 0 from fun q => q j (by simp) c0), show gm K (vH K (yR y)) [j] (gm K (vH K (yR y)) P (-2147483648)) = (if gm K (vH K (yR y)) P (-2147483648) < vH K (yR y) j then vH K (yR y) j else gm K (vH K (yR y)) P (-2147483648)) from if_pos c0] at nx
      rw [if_pos c0]
      refine ⟨O.2.1.kn hj, hd, C_value O.2.1 hj hy (onI_v ?_)⟩
      rw [(O.2.1.af hj).1, e41, hv]
      exact ⟨O.2.1.kn hj, nx⟩
    · rw [if_neg c0]
      rw [show gm K (vH K (yR y)) [j] (gm K (vH K (yR y)) P (-2147483648)) = gm K (vH K (yR y)) P (-2147483648) from if_neg c0] at nx
      have e : (if (∀ i ∈ P ++ [j], ¬ K 4 i = 0) then (0 : Int32) else 1) = if (∀ i ∈ P, ¬ K 4 i = 0) then 0 else 1 := by
        by_cases hc : ∀ i ∈ P, ¬ K 4 i = 0
        · rw [if_pos hc, if_pos (fun i hi => (List.mem_append.mp hi).elim (hc i) (fun q => by rw [List.mem_singleton.mp q]; exact c0))]
        · rw [if_neg hc, if_neg (fun q => hc (fun i hi => q i (List.mem_append_left _ hi)))]
      rw [e] at nx
      exact ⟨O.2.1.kn hj, nx⟩
theorem C_great (O : RO g c t b na K T N W) (hd : 1 < d) (hy : y = 1 ∨ y = 2) {i : Nat} (hi : i ∈ ino T) (q1 : szS K T i = 0 → thr lim X 2 g) (q2 : ¬ szS K T i = 0 → R (some (vi (grS K T (yR y) i))) g) : WM lim d j_It_greatestInSubtree [vr (some (na i)), vi y] g R X := by
  have hiff : szS K T i = 0 ↔ ∀ j ∈ ino (subT T i), ¬ K 4 j = 0 := by
    unfold szS
    rw [isum_count]
    have hle : (ino (subT T i)).countP (fun a => decide (K 4 a = 0)) ≤ 100 := by
      obtain ⟨a', b', cx, e1, e2, e3⟩ := subT_zip O.2.2.1.2.2.1.1 hi
      have h1 : (ino (subT T i)).length ≤ (ino T).length := by
        rw [e1]; have := (plug_perm cx (.branch i a' b')).length_eq; rw [e2, List.length_append] at this; omega
      have h2 := List.countP_le_length (p := fun a => decide (K 4 a = 0)) (l := ino (subT T i))
      have := O.2.2.1.2.2.2.2.2.2.2.2.2.1
      omega
    have e0 : nI ((ino (subT T i)).countP fun a => decide (K 4 a = 0)) = 0 ↔ (ino (subT T i)).countP (fun a => decide (K 4 a = 0)) = 0 := by
      rw [i_eq, nI_toInt (by omega), show (0 : Int32).toInt = 0 from rfl]; omega
    rw [e0, List.countP_eq_zero]
    exact ⟨fun q j hj => fun z => q j hj (decide_eq_true z), fun q j hj z => q j hj (of_decide_eq_true z)⟩
  refine B_It_greatestInSubtree_0 ?_
  simp only [onR_s]
  have := fun A B (hAB : ino T = A ++ (ino (subT T i) ++ B)) => C_gr20 (lim := lim) (X := X) (R := R) (d := d) (o0 := some (na i)) O (by omega) hy hAB (fun q => q1 (hiff.mpr q)) (fun q => q2 (fun z => q (hiff.mp z))) (ino (subT T i)) [] rfl
  refine C_ends O hi (by omega) (F := fun o3 o5 h => WP lim d j_It_greatestInSubtree 20 [some (vr (some (na i))), some (vi y), some (vr o3), some (vi 0), some (vi (-2147483648)), some (vr o5)] [] h R X) (fun A B hAB => ?_)
  have h := this A B hAB
  rw [if_pos (fun j hj => by cases hj)] at h
  exact h
theorem C_subtreeHigh (O : RO g c t b na K T N W) (hd : 3 < d) (q1 : ¬ (ix x N ∧ K 4 x.toNatClampNeg < 2) → thr lim X 3 g) (q2 : ∀ i, i ∈ ino T → x = nI i → szS K T i = 0 → thr lim X 2 g) (q3 : ∀ i, i ∈ ino T → x = nI i → ¬ szS K T i = 0 → R (some (vi (grS K T 1 i))) g) : WM lim d j_It_subtreeHigh [vr (some c), vi x] g R X :=
  B_It_subtreeHigh_0 ⟨all1.mpr O.1.1, by omega, C_present O (by omega) (fun i hi e => onO_v ⟨by omega, C_great O (by omega) (Or.inl rfl) hi (q2 i hi e) (fun h => onI_v ⟨rfl, q3 i hi e h⟩)⟩) q1⟩
theorem C_subtreeWeight (O : RO g c t b na K T N W) (hd : 3 < d) (q1 : ¬ (ix x N ∧ K 4 x.toNatClampNeg < 2) → thr lim X 3 g) (q2 : ∀ i, i ∈ ino T → x = nI i → szS K T i = 0 → thr lim X 2 g) (q3 : ∀ i, i ∈ ino T → x = nI i → ¬ szS K T i = 0 → R (some (vi (grS K T 0 i))) g) : WM lim d j_It_subtreeWeight [vr (some c), vi x] g R X :=
  B_It_subtreeWeight_0 ⟨all1.mpr O.1.1, by omega, C_present O (by omega) (fun i hi e => onO_v ⟨by omega, C_great O (by omega) (Or.inr rfl) hi (q2 i hi e) (fun h => onI_v ⟨rfl, q3 i hi e h⟩)⟩) q1⟩
end SUBC
