/-! ===== the class: a new node ===== -/
def hdI : List Nat → Int32
  | [] => -1
  | x :: _ => nI x
def laI (l : List Nat) : Int32 := hdI l.reverse
theorem laI_app {l : List Nat} {x : Nat} : laI (l ++ [x]) = nI x := by unfold laI; rw [List.reverse_append]; rfl
theorem lfs_t {p : Nat} {s : Tr} {cx : Zc} : lfs ((true, p, s) :: cx) = lfs cx := rfl
theorem lfs_f {p : Nat} {s : Tr} {cx : Zc} : laI (lfs ((false, p, s) :: cx)) = nI p := by
  show laI (lfs cx ++ (ino s ++ [p])) = _
  rw [← List.append_assoc, laI_app]
theorem rgs_sub : ∀ {cx : Zc} {x : Nat}, x ∈ rgs cx → x ∈ cids cx := by
  intro cx
  induction cx with
  | nil => intro x h; exact h
  | cons f cx ih =>
    intro x h
    obtain ⟨b, p, s⟩ := f
    cases b with
    | true =>
      rcases List.mem_cons.mp h with rfl | h
      · exact List.mem_cons_self
      · rcases List.mem_append.mp h with h | h
        · exact List.mem_cons_of_mem _ (List.mem_append_left _ h)
        · exact List.mem_cons_of_mem _ (List.mem_append_right _ (ih h))
    | false => exact List.mem_cons_of_mem _ (List.mem_append_right _ (ih h))
theorem lfs_sub : ∀ {cx : Zc} {x : Nat}, x ∈ lfs cx → x ∈ cids cx := by
  intro cx
  induction cx with
  | nil => intro x h; exact h
  | cons f cx ih =>
    intro x h
    obtain ⟨b, p, s⟩ := f
    cases b with
    | false =>
      rcases List.mem_append.mp h with h | h
      · exact List.mem_cons_of_mem _ (List.mem_append_right _ (ih h))
      · rcases List.mem_append.mp h with h | h
        · exact List.mem_cons_of_mem _ (List.mem_append_left _ h)
        · rw [List.mem_singleton.mp h]; exact List.mem_cons_self
    | true => exact List.mem_cons_of_mem _ (List.mem_append_right _ (ih h))
theorem hdI_pd {D : Nat → Prop} {l : List Nat} (h : ∀ x ∈ l, D x) : pd D (hdI l) := by
  cases l with
  | nil => exact Or.inl rfl
  | cons x l => exact Or.inr ⟨x, h x List.mem_cons_self, rfl⟩
theorem laI_pd {D : Nat → Prop} {l : List Nat} (h : ∀ x ∈ l, D x) : pd D (laI l) := hdI_pd (fun x hx => h x (List.mem_reverse.mp hx))
theorem root_pd {D : Nat → Prop} {t : Tr} (h : ∀ x ∈ ino t, D x) : pd D (rootOf t) := by
  rcases root_in (t := t) with c | ⟨n, hn, c⟩
  · exact Or.inl c
  · exact Or.inr ⟨n, h n hn, c⟩
theorem up_pd {D : Nat → Prop} {cx : Zc} (h : ∀ x ∈ cids cx, D x) : pd D (upOf cx) := by
  cases cx with
  | nil => exact Or.inl rfl
  | cons f cx => exact Or.inr ⟨f.2.1, h _ List.mem_cons_self, rfl⟩
def chA (K : MT) (s : Int32) (n : Nat) (e : Int32) : MT := up2 (up2 K 40 n s) 41 n e
def chB (K : MT) (s : Int32) (n : Nat) : MT := if s = -1 then up2 K 43 0 (nI n) else up2 K 41 s.toNatClampNeg (nI n)
def chC (K : MT) (n : Nat) (e : Int32) : MT := if e = -1 then up2 K 43 1 (nI n) else up2 K 40 e.toNatClampNeg (nI n)
def chM (K : MT) (s : Int32) (n : Nat) (e : Int32) : MT := chC (chB (chA K s n e) s n) n e
def hgM (K : MT) (n : Nat) : Zc → MT
  | [] => up2 K 0 9 (nI n)
  | (true, p, _) :: _ => setM K 5 p (nI n)
  | (false, p, _) :: _ => setM K 6 p (nI n)
section HANGC
variable {g0 g : AHp} {t b : Nat} {na : Nat → Nat} {D : Nat → Prop} {K : MT} {n : Nat} {lim : Nat × Nat} {d : Nat} {R : RT} {X : XT}
theorem C_isBehind (V : CV g0 g t b na D K) {m : Nat} (hm : D m) {l h w : Int32} (q1 : (l.toInt < (K 1 m).toInt ∨ (l = K 1 m ∧ (h.toInt < (K 2 m).toInt ∨ (h = K 2 m ∧ w.toInt < m)))) → R (some (vi 1)) g) (q2 : ¬ (l.toInt < (K 1 m).toInt ∨ (l = K 1 m ∧ (h.toInt < (K 2 m).toInt ∨ (h = K 2 m ∧ w.toInt < m)))) → R (some (vi 0)) g) : WM lim d j_No_isBehind [vr (some (na m)), vi l, vi h, vi w] g R X := by
  have hm5 := V.lt hm
  refine B_No_isBehind_0 ⟨V.kn hm, ?_⟩
  rw [V.lo hm, V.hi hm, V.id hm]
  have e1 : ∀ {x y : Int32}, x < y ↔ x.toInt < y.toInt := i_lt
  split
  · rename_i c1
    refine ⟨V.kn hm, ?_⟩
    split
    · rename_i c2
      refine ⟨V.kn hm, ?_⟩
      split
      · rename_i c3; rw [i_lt, nI_toInt (by omega)] at c3
        exact ⟨rfl, b01_1, q1 (Or.inr ⟨c1.symm, Or.inr ⟨c2.symm, c3⟩⟩)⟩
      · rename_i c3; rw [i_lt, nI_toInt (by omega)] at c3
        refine ⟨rfl, b01_0, q2 (fun c => ?_)⟩
        rcases c with c | ⟨-, c | ⟨-, c⟩⟩
        · rw [c1] at c; omega
        · rw [c2] at c; omega
        · exact c3 c
    · rename_i c2
      refine ⟨V.kn hm, ?_⟩
      split
      · rename_i c3; rw [i_lt] at c3
        exact ⟨rfl, b01_1, q1 (Or.inr ⟨c1.symm, Or.inl c3⟩)⟩
      · rename_i c3; rw [i_lt] at c3
        refine ⟨rfl, b01_0, q2 (fun c => ?_)⟩
        rcases c with c | ⟨-, c | ⟨c, -⟩⟩
        · rw [c1] at c; omega
        · exact c3 c
        · exact c2 c.symm
  · rename_i c1
    refine ⟨V.kn hm, ?_⟩
    split
    · rename_i c3; rw [i_lt] at c3
      exact ⟨rfl, b01_1, q1 (Or.inl c3)⟩
    · rename_i c3; rw [i_lt] at c3
      refine ⟨rfl, b01_0, q2 (fun c => ?_)⟩
      rcases c with c | ⟨c, -⟩
      · exact c3 c
      · exact c1 c.symm
theorem C_isLess (V : CV g0 g t b na D K) {m : Nat} (hn : D n) (hm : D m) (hd : 0 < d) (q1 : less K n m → R (some (vi 1)) g) (q2 : ¬ less K n m → R (some (vi 0)) g) : WM lim d j_No_isLessThan [vr (some (na n)), vr (some (na m))] g R X := by
  have hn5 := V.lt hn
  refine B_No_isLessThan_0 ⟨V.kn hn, V.kn hn, V.kn hn, ?_⟩
  rw [onR_s, V.lo hn, V.hi hn, V.id hn]
  refine ⟨all1.mpr (V.kn hm), hd, C_isBehind V hm (fun c => ⟨rfl, b01_1, q1 ?_⟩) (fun c => ⟨rfl, b01_0, q2 (fun c' => c ?_)⟩)⟩
  · rw [nI_toInt (by omega)] at c
    unfold less
    rcases c with c | ⟨c1, c | ⟨c2, c3⟩⟩
    · exact Or.inl c
    · exact Or.inr ⟨c1, Or.inl c⟩
    · exact Or.inr ⟨c1, Or.inr ⟨c2, by omega⟩⟩
  · rw [nI_toInt (by omega)]
    unfold less at c'
    rcases c' with c | ⟨c1, c | ⟨c2, c3⟩⟩
    · exact Or.inl c
    · exact Or.inr ⟨c1, Or.inl c⟩
    · exact Or.inr ⟨c1, Or.inr ⟨c2, by omega⟩⟩
theorem C_chain (V : CV g0 g t b na D K) (hn : D n) {s e : Int32} (hs : pd D s) (he : pd D e) (q : ∀ g', CV g0 g' t b na D (chM K s n e) → R none g') : WM lim d j_Tr_chain [vr (some t), vr (oa na s), vr (some (na n)), vr (oa na e)] g R X := by
  have n5 := V.lt hn
  have V1 : CV g0 (sP (sP g (na n) 9 (oa na s)) (na n) 10 (oa na e)) t b na D (chA K s n e) := (V.wnP (k := 9) hn (by decide) hs).wnP (k := 10) hn (by decide) he
  have hnp : pd D (nI n) := Or.inr ⟨n, hn, rfl⟩
  refine B_Tr_chain_0 ?_
  simp only [onR_s, true_and]
  refine ⟨V.kn hn, V.kn hn, ?_⟩
  unfold chM at q
  generalize chA K s n e = K1 at V1 q
  generalize sP (sP g (na n) 9 (oa na s)) (na n) 10 (oa na e) = g1 at V1 ⊢
  have tail : ∀ {g2 : AHp} {K2 : MT}, CV g0 g2 t b na D K2 → (∀ g', CV g0 g' t b na D (chC K2 n e) → R none g') → ifN (oa na e) (hk g2 t = 5 ∧ R none (sP g2 t 3 (some (na n)))) (onR (oa na e) fun a4 => hk g2 a4 = 2 ∧ R none (sP g2 a4 9 (some (na n)))) := by
    intro g2 K2 V2 q
    unfold chC at q
    rcases V2.nul he with ⟨e0, eo⟩ | ⟨i, hi, e0, eo, e1, e2⟩
    · rw [if_pos e0] at q
      have V3 := V2.wtP (k := 3) (by decide) (by decide) hnp
      rw [oa_s n5] at V3
      rw [eo]; exact ⟨V2.kt, q _ V3⟩
    · rw [if_neg e1, e2] at q
      have V3 := V2.wnP (k := 9) hi (by decide) hnp
      rw [oa_s n5] at V3
      rw [eo]; exact ⟨V2.kn hi, q _ V3⟩
  unfold chB at q
  rcases V1.nul hs with ⟨e0, eo⟩ | ⟨i, hi, e0, eo, e1, e2⟩
  · rw [if_pos e0] at q
    have V3 := V1.wtP (k := 2) (by decide) (by decide) hnp
    rw [oa_s n5] at V3
    rw [eo]; exact ⟨V1.kt, tail V3 q⟩
  · rw [if_neg e1, e2] at q
    have V3 := V1.wnP (k := 10) hi (by decide) hnp
    rw [oa_s n5] at V3
    rw [eo]; exact ⟨V1.kn hi, tail V3 q⟩
theorem C_hang13 (V : CV g0 g t b na D K) (hn : D n) (hd : 1 < d) : ∀ (tt : Tr) (cx : Zc) (up : Int32), Enc K up tt → (∀ x ∈ ino tt, D x) → hdok K n cx → (∀ x ∈ cids cx, D x) → (ino tt ++ cids cx).Nodup → (∀ g', CV g0 g' t b na D (chM (hgM K n (down K n tt cx)) (laI (lfs (down K n tt cx))) n (hdI (rgs (down K n tt cx)))) → R none g') →
    WP lim d j_Tr_hang 13 [some (vr (some t)), some (vr (some (na n))), some (vr (oa na (laI (lfs cx)))), some (vr (oa na (hdI (rgs cx)))), some (vr (oa na (upOf cx))), some (vr (oa na (rootOf tt)))] [] g R X := by
  have n5 := V.lt hn
  intro tt
  induction tt with
  | leaf u =>
    intro cx up _ _ hk hb hnd q
    have q : ∀ g', CV g0 g' t b na D (chM (hgM K n cx) (laI (lfs cx)) n (hdI (rgs cx))) → R none g' := q
    have hs : pd D (laI (lfs cx)) := laI_pd (fun x hx => hb x (lfs_sub hx))
    have he : pd D (hdI (rgs cx)) := hdI_pd (fun x hx => hb x (rgs_sub hx))
    refine B_Tr_hang_13 ?_
    rw [show rootOf (.leaf u) = (-1 : Int32) from rfl, oa_n, ifN_n]
    cases cx with
    | nil =>
      rw [show upOf [] = (-1 : Int32) from rfl, oa_n, ifN_n]
      have V1 := V.wtP (k := 1) (by decide) (by decide) (Or.inr ⟨n, hn, rfl⟩)
      rw [oa_s n5] at V1
      exact ⟨V.kt, all1.mpr V1.kt, by omega, C_chain V1 hn hs he (fun g' V' => ⟨rfl, q g' V'⟩)⟩
    | cons f cx =>
      obtain ⟨bb, p, s⟩ := f
      have hp : D p := hb p List.mem_cons_self
      have p5 := V.lt hp
      rw [show upOf ((bb, p, s) :: cx) = nI p from rfl, oa_s p5, ifN_s]
      cases bb with
      | true =>
        rw [show hdI (rgs ((true, p, s) :: cx)) = nI p from rfl] at he q ⊢
        rw [oa_s p5, if_pos rfl, onR_s]
        refine ⟨all1.mpr (V.kn hp), by omega, C_setLeft V hp (Or.inr ⟨n, hn, rfl⟩) (oa_s n5).symm (fun g1 V1 => ⟨all1.mpr V1.kt, by omega, ?_⟩)⟩
        rw [← oa_s (na := na) p5]
        exact C_chain V1 hn hs he (fun g' V' => ⟨rfl, q g' V'⟩)
      | false =>
        have hne : ¬ some (na p) = oa na (hdI (rgs ((false, p, s) :: cx))) := by
          intro c
          have hc := (V.oeq he hp).mp c.symm
          have hnp : p ∉ ino s ++ cids cx := (List.nodup_cons.mp ((List.nodup_append.mp hnd).2.1)).1
          have hr : rgs ((false, p, s) :: cx) = rgs cx := rfl
          rw [hr] at hc
          cases hq : rgs cx with
          | nil => rw [hq] at hc; exact nI_m1 (n := p) (by omega) hc.symm
          | cons y ys =>
            rw [hq] at hc
            have hy : y ∈ cids cx := rgs_sub (hq ▸ List.mem_cons_self)
            have : y = p := nI_inj (V.lt (hb y (List.mem_cons_of_mem _ (List.mem_append_right _ hy)))) p5 hc
            exact hnp (this ▸ List.mem_append_right _ hy)
        rw [if_neg hne, onR_s]
        exact ⟨all1.mpr (V.kn hp), by omega, C_setRight V hp (Or.inr ⟨n, hn, rfl⟩) (oa_s n5).symm (fun g1 V1 => ⟨all1.mpr V1.kt, by omega, C_chain V1 hn hs he (fun g' V' => ⟨rfl, q g' V'⟩)⟩)⟩
  | branch r l rr hl hr =>
    intro cx up e hb hk hc hnd q
    obtain ⟨e1, e2, e3, e4, e5⟩ := e
    have hr0 : D r := hb r (List.mem_append_right _ List.mem_cons_self)
    have r5 := V.lt hr0
    have bl : ∀ x ∈ ino l, D x := fun x h => hb x (List.mem_append_left _ h)
    have br : ∀ x ∈ ino rr, D x := fun x h => hb x (List.mem_append_right _ (List.mem_cons_of_mem _ h))
    rw [down_b] at q
    refine B_Tr_hang_13 ?_
    rw [show rootOf (.branch r l rr) = nI r from rfl, oa_s r5, ifN_s, onR_s]
    refine ⟨all1.mpr (V.kn hn), by omega, C_isLess V hn hr0 (by omega) (fun h => onI_1 ?_) (fun h => onI_0 ?_)⟩
    · rw [if_pos (lB_iff.mpr h)] at q
      refine ⟨V.kn hr0, ?_⟩
      rw [(V.le hr0).1, e2, ← oa_s (na := na) r5]
      refine hl ((true, r, rr) :: cx) _ e4 bl (lB_iff.mpr h) (fun x hx => ?_) ?_ q
      · rcases List.mem_cons.mp hx with rfl | hx
        · exact hr0
        · exact (List.mem_append.mp hx).elim (br x) (hc x)
      · refine (List.Perm.nodup_iff ?_).mp hnd
        show (ino l ++ r :: ino rr ++ cids cx).Perm (ino l ++ r :: (ino rr ++ cids cx))
        rw [List.append_assoc, List.cons_append]
    · rw [if_neg (by rw [lB_f h]; decide)] at q
      refine ⟨V.kn hr0, ?_⟩
      rw [(V.ri hr0).1, e3, ← oa_s (na := na) r5]
      have := hr ((false, r, l) :: cx) (nI r) e5 br (lB_f h) (fun x hx => ?_) ?_ q
      · rw [lfs_f] at this; exact this
      · rcases List.mem_cons.mp hx with rfl | hx
        · exact hr0
        · exact (List.mem_append.mp hx).elim (bl x) (hc x)
      · refine (List.Perm.nodup_iff ?_).mp hnd
        show (ino l ++ r :: ino rr ++ cids cx).Perm (ino rr ++ r :: (ino l ++ cids cx))
        rw [List.perm_iff_count]; intro a; simp only [List.count_append, List.count_cons]; omega
theorem C_hang (V : CV g0 g t b na D K) (hn : D n) (hd : 1 < d) {T : Tr} (e : EncZ K T []) (hT : ∀ x ∈ ino T, D x) (hnd : (ino T).Nodup) (q : ∀ g', CV g0 g' t b na D (chM (hgM K n (down K n T [])) (laI (lfs (down K n T []))) n (hdI (rgs (down K n T [])))) → R none g') : WM lim d j_Tr_hang [vr (some t), vr (some (na n))] g R X := by
  refine B_Tr_hang_0 ⟨V.kt, ?_⟩
  rw [V.ro.1, show K 0 9 = rootOf T from e.2]
  have := C_hang13 (R := R) (lim := lim) (X := X) V hn hd T [] (-1) e.1 hT trivial (fun x hx => by cases hx) (by show (ino T ++ []).Nodup; rw [List.append_nil]; exact hnd) q
  rw [show laI (lfs []) = (-1 : Int32) from rfl, show hdI (rgs []) = (-1 : Int32) from rfl, show upOf [] = (-1 : Int32) from rfl, oa_n] at this
  exact this
end HANGC
