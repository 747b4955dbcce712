/-! ===== adding filters: the class ===== -/
/-- cells that hold steps, each with the next one behind it -/
def LK (h : AHp) : List Nat → List SP → Prop
  | [], [] => True
  | a :: cs, s :: L => a < hsz h ∧ hk h a = 3 ∧ (hI h a 0 = s.1 ∧ hI h a 1 = s.2.1 ∧ hI h a 2 = s.2.2.1 ∧ hI h a 3 = s.2.2.2) ∧ hP h a 4 = cs.head? ∧ LK h cs L
  | _, _ => False
theorem LK.sch {h : AHp} : ∀ {cs : List Nat} {L : List SP}, LK h cs L → SCh h cs.head? L := by
  intro cs
  induction cs with
  | nil =>
    intro L c
    cases L with
    | nil => rfl
    | cons s L => exact c.elim
  | cons a cs ih =>
    intro L c
    cases L with
    | nil => exact c.elim
    | cons s L =>
      obtain ⟨c1, c2, c3, c4, c5⟩ := c
      exact ⟨a, rfl, c1, c2, c3, by rw [c4]; exact ih c5⟩
theorem LK.at {h : AHp} : ∀ {cs : List Nat} {L : List SP}, LK h cs L → ∀ x, x ∈ cs → x < hsz h ∧ hk h x = 3 := by
  intro cs
  induction cs with
  | nil => intro L c x hx; cases hx
  | cons a cs ih =>
    intro L c x hx
    cases L with
    | nil => exact c.elim
    | cons s L =>
      obtain ⟨c1, c2, c3, c4, c5⟩ := c
      rcases List.mem_cons.mp hx with rfl | hx
      · exact ⟨c1, c2⟩
      · exact ih c5 x hx
theorem LK.same {h h' : AHp} : ∀ {cs : List Nat} {L : List SP}, LK h cs L → (∀ x, x ∈ cs → x < hsz h' ∧ hk h' x = hk h x ∧ hI h' x = hI h x ∧ hP h' x = hP h x) → LK h' cs L := by
  intro cs
  induction cs with
  | nil =>
    intro L c _
    cases L with
    | nil => trivial
    | cons s L => exact c.elim
  | cons a cs ih =>
    intro L c hx
    cases L with
    | nil => exact c.elim
    | cons s L =>
      obtain ⟨c1, c2, c3, c4, c5⟩ := c
      obtain ⟨x1, x2, x3, x4⟩ := hx a List.mem_cons_self
      exact ⟨x1, x2.trans c2, by rw [x3]; exact c3, by rw [x4]; exact c4, ih c5 (fun x h => hx x (List.mem_cons_of_mem _ h))⟩
theorem LK.snoc {h h' : AHp} {e : Nat} {s : SP} (he : e < hsz h' ∧ hk h' e = 3 ∧ (hI h' e 0 = s.1 ∧ hI h' e 1 = s.2.1 ∧ hI h' e 2 = s.2.2.1 ∧ hI h' e 3 = s.2.2.2) ∧ hP h' e 4 = none) : ∀ {cs : List Nat} {L : List SP}, LK h cs L → cs.Nodup → (∀ x, x ∈ cs → x < hsz h' ∧ hk h' x = hk h x ∧ hI h' x = hI h x ∧ hP h' x 4 = if cs.getLast? = some x then some e else hP h x 4) → LK h' (cs ++ [e]) (L ++ [s]) := by
  intro cs
  induction cs with
  | nil =>
    intro L c _ _
    cases L with
    | nil => exact ⟨he.1, he.2.1, he.2.2.1, he.2.2.2, trivial⟩
    | cons s L => exact c.elim
  | cons a cs ih =>
    intro L c nd hx
    cases L with
    | nil => exact c.elim
    | cons s' L =>
      obtain ⟨c1, c2, c3, c4, c5⟩ := c
      obtain ⟨x1, x2, x3, x4⟩ := hx a List.mem_cons_self
      rw [List.nodup_cons] at nd
      cases cs with
      | nil =>
        cases L with
        | nil =>
          rw [if_pos (show [a].getLast? = some a from rfl)] at x4
          exact ⟨x1, x2.trans c2, by rw [x3]; exact c3, x4, he.1, he.2.1, he.2.2.1, he.2.2.2, trivial⟩
        | cons _ _ => exact c5.elim
      | cons b cs =>
        have hl : (a :: b :: cs).getLast? = (b :: cs).getLast? := rfl
        rw [hl] at hx x4
        have hm : (b :: cs).getLast? ≠ some a := fun z => nd.1 (List.mem_of_getLast? z)
        rw [if_neg hm] at x4
        refine ⟨x1, x2.trans c2, by rw [x3]; exact c3, ?_, ih c5 nd.2 (fun x h => hx x (List.mem_cons_of_mem _ h))⟩
        rw [x4, c4]; rfl
theorem nw_keep {h : AHp} {k n : Nat} {A : Nat → Prop} : Keep h (nw h k n) A := ⟨Nat.le_succ _, fun a ha => ⟨up1_off _ (by omega), up1_off _ (by omega), fun _ => ⟨cl2_off _ (by omega), cl2_off _ (by omega), cl2_off _ (by omega)⟩⟩⟩
theorem sI_kp {h g : AHp} {a k : Nat} {v : Int32} {A : Nat → Prop} (K : Keep h g A) (q : hsz h ≤ a ∨ A a) : Keep h (sI g a k v) A := by
  refine ⟨K.1, fun x hx => ?_⟩
  have kk := K.2 x hx
  refine ⟨kk.1, kk.2.1, fun hA => ?_⟩
  have cc := kk.2.2 hA
  have ne : x ≠ a := fun e => by
    rcases q with q | q
    · omega
    · exact hA (e ▸ q)
  exact ⟨(up2_off _ ne).trans cc.1, cc.2.1, cc.2.2⟩
theorem sP_kp {h g : AHp} {a k : Nat} {v : Option Nat} {A : Nat → Prop} (K : Keep h g A) (q : hsz h ≤ a ∨ A a) : Keep h (sP g a k v) A := by
  refine ⟨K.1, fun x hx => ?_⟩
  have kk := K.2 x hx
  refine ⟨kk.1, kk.2.1, fun hA => ?_⟩
  have cc := kk.2.2 hA
  have ne : x ≠ a := fun e => by
    rcases q with q | q
    · omega
    · exact hA (e ▸ q)
  exact ⟨cc.1, (up2_off _ ne).trans cc.2.1, cc.2.2⟩
theorem Fr.kp {h g g' : AHp} {A B : Nat → Prop} (K : Keep h g A) (f : Fr g g' B) (q : ∀ x, B x → hsz h ≤ x ∨ A x) : Keep h g' A := by
  refine ⟨by rw [f.1]; exact K.1, fun x hx => ?_⟩
  have kk := K.2 x hx
  refine ⟨by rw [f.2.2.1]; exact kk.1, by rw [f.2.2.2.1]; exact kk.2.1, fun hA => ?_⟩
  have cc := kk.2.2 hA
  have ff := f.2.2.2.2 x (fun z => by
    rcases q x z with q | q
    · omega
    · exact hA q)
  exact ⟨ff.1.trans cc.1, ff.2.1.trans cc.2.1, ff.2.2.trans cc.2.2⟩
theorem hPq_at {f : Nat → Nat → Option Nat} {a k : Nat} {v : Option Nat} : up2 f a k v a k = v := by unfold up2; rw [if_pos ⟨rfl, rfl⟩]
theorem hPq_ne {f : Nat → Nat → Option Nat} {a k b j : Nat} {v : Option Nat} (h : ¬ (b = a ∧ j = k)) : up2 f a k v b j = f b j := by unfold up2; rw [if_neg h]
/-- a new step -/
def NwS (h h' : AHp) (s : SP) : Prop := hsz h' = hsz h + 1 ∧ hsu h' = hsu h + 5 ∧ Keep h h' (fun _ => False) ∧ hk h' (hsz h) = 3 ∧ (hI h' (hsz h) 0 = s.1 ∧ hI h' (hsz h) 1 = s.2.1 ∧ hI h' (hsz h) 2 = s.2.2.1 ∧ hI h' (hsz h) 3 = s.2.2.2)
section ADDC
variable {h : AHp} {lim : Nat × Nat} {d : Nat} {R : RT} {X : XT} {x y u v : Int32} {s : SP}
theorem C_stepI {X : XT} (q : ∀ h', NwS h h' (x, y, u, v) → R none h') : WM lim d j_St_init [vr (some (hsz h)), vi x, vi y, vi u, vi v] (nw h 3 5) R X := by
  have kN : hk (nw h 3 5) (hsz h) = 3 := up1_on _
  have k0 : Keep h (nw h 3 5) (fun _ => False) := nw_keep
  have z0 : hsz (nw h 3 5) = hsz h + 1 := rfl
  have u0 : hsu (nw h 3 5) = hsu h + 5 := rfl
  generalize nw h 3 5 = g at kN k0 z0 u0
  refine B_St_init_0 ?_
  simp only [hk_sI]
  refine ⟨kN, kN, kN, kN, kN, trivial, q _ ⟨z0, u0, ?_, kN, ?_, ?_, ?_, ?_⟩⟩
  · exact sP_kp (sI_kp (sI_kp (sI_kp (sI_kp k0 (Or.inl (Nat.le_refl _))) (Or.inl (Nat.le_refl _))) (Or.inl (Nat.le_refl _))) (Or.inl (Nat.le_refl _))) (Or.inl (Nat.le_refl _))
  · rw [hI_sP, hI_ne (by omega), hI_ne (by omega), hI_ne (by omega), hI_at]
  · rw [hI_sP, hI_ne (by omega), hI_ne (by omega), hI_at]
  · rw [hI_sP, hI_ne (by omega), hI_at]
  · rw [hI_sP, hI_at]
theorem C_rangeStep (hd : 0 < d) (hz : hsz h + 1 ≤ lim.1) (hu : hsu h + 5 ≤ lim.2) (q : ∀ h', NwS h h' (0, x, y, u) → R (some (vr (some (hsz h)))) h') : WM lim d j_It_rangeStep [vi x, vi y, vi u] h R X :=
  B_It_rangeStep_0 ⟨hz, hu, hd, C_stepI (fun h' n => ⟨rfl, q h' n⟩)⟩
theorem C_plainStep (hd : 0 < d) (hz : hsz h + 1 ≤ lim.1) (hu : hsu h + 5 ≤ lim.2) (q : ∀ h', NwS h h' (x, 0, 0, 0) → R (some (vr (some (hsz h)))) h') : WM lim d j_It_plainStep [vi x] h R X :=
  B_It_plainStep_0 ⟨hz, hu, hd, C_stepI (fun h' n => ⟨rfl, q h' n⟩)⟩
theorem C_referenceStep (hd : 0 < d) (hz : hsz h + 1 ≤ lim.1) (hu : hsu h + 5 ≤ lim.2) (q : ∀ h', NwS h h' (2, x, 0, 0) → R (some (vr (some (hsz h)))) h') : WM lim d j_It_referenceStep [vi x] h R X :=
  B_It_referenceStep_0 ⟨hz, hu, hd, C_stepI (fun h' n => ⟨rfl, q h' n⟩)⟩
/-- a filter that is being made -/
def FCh (h : AHp) (a : Nat) (cs : List Nat) (L : List SP) : Prop := hk h a = 1 ∧ a < hsz h ∧ hP h a 0 = cs.head? ∧ hP h a 1 = cs.getLast? ∧ LK h cs L ∧ cs.Nodup
theorem C_filI {X : XT} (q : ∀ h', hsz h' = hsz h + 1 → hsu h' = hsu h + 3 → Keep h h' (fun _ => False) → FCh h' (hsz h) [] [] → R none h') : WM lim d j_Fi_init [vr (some (hsz h))] (nw h 1 3) R X := by
  have kN : hk (nw h 1 3) (hsz h) = 1 := up1_on _
  have k0 : Keep h (nw h 1 3) (fun _ => False) := nw_keep
  have z0 : hsz (nw h 1 3) = hsz h + 1 := rfl
  have u0 : hsu (nw h 1 3) = hsu h + 3 := rfl
  generalize nw h 1 3 = g at kN k0 z0 u0
  refine B_Fi_init_0 ?_
  simp only [hk_sP]
  refine ⟨kN, kN, kN, trivial, q _ z0 u0 ?_ ⟨kN, by show hsz h < hsz g; omega, ?_, ?_, trivial, List.nodup_nil⟩⟩
  · exact sI_kp (sP_kp (sP_kp k0 (Or.inl (Nat.le_refl _))) (Or.inl (Nat.le_refl _))) (Or.inl (Nat.le_refl _))
  · rw [hP_sI, hP_sP, hPq_ne (by omega), hP_sP, hPq_at]; rfl
  · rw [hP_sI, hP_sP, hPq_at]; rfl
theorem C_append {a e : Nat} {cs : List Nat} {L : List SP} (C : FCh h a cs L) (he : e < hsz h) (ke : hk h e = 3) (hs : hI h e 0 = s.1 ∧ hI h e 1 = s.2.1 ∧ hI h e 2 = s.2.2.1 ∧ hI h e 3 = s.2.2.2) (nd : e ∉ cs) (q : ∀ h', Fr h h' (fun x => x = a ∨ x = e ∨ x ∈ cs) → hI h' = hI h → FCh h' a (cs ++ [e]) (L ++ [s]) → R none h') : WM lim d j_Fi_append [vr (some a), vr (some e)] h R X := by
  obtain ⟨ka, haz, p0, p1, lk, ndc⟩ := C
  have nae : a ≠ e := fun z => by rw [z, ke] at ka; cases ka
  have nac : ∀ x, x ∈ cs → x ≠ a := fun x hx z => by have := (lk.at x hx).2; rw [z, ka] at this; cases this
  have ndn : (cs ++ [e]).Nodup := by
    rw [List.nodup_append]
    refine ⟨ndc, List.nodup_cons.mpr ⟨List.not_mem_nil, List.nodup_nil⟩, fun x hx y hy z => ?_⟩
    rw [List.mem_singleton] at hy
    rw [z, hy] at hx
    exact nd hx
  refine B_Fi_append_0 ?_
  rw [onR_s]
  simp only [hk_sP]
  have e1 : hP (sP h e 4 none) a 1 = cs.getLast? := by rw [hP_sP, hPq_ne (fun z => nae z.1)]; exact p1
  rw [e1]
  refine ⟨ke, ka, ?_⟩
  cases hl : cs.getLast? with
  | none =>
    have hcs : cs = [] := List.getLast?_eq_none_iff.mp hl
    subst hcs
    refine ⟨ka, ka, trivial, q _ ?_ rfl ⟨ka, haz, ?_, ?_, ?_, ndn⟩⟩
    · exact (((sP_fr.mono (fun x z => Or.inr (Or.inl z))).trans (sP_fr.mono (fun x z => Or.inl z))).trans (sP_fr.mono (fun x z => Or.inl z)))
    · rw [hP_sP, hPq_ne (by omega), hP_sP, hPq_at]; rfl
    · rw [hP_sP, hPq_at]; rfl
    · refine LK.snoc (h' := sP (sP (sP h e 4 none) a 0 (some e)) a 1 (some e)) ⟨he, ke, hs, ?_⟩ lk ndc (fun x hx => by cases hx)
      rw [hP_sP, hPq_ne (by omega), hP_sP, hPq_ne (by omega), hP_sP, hPq_at]
  | some l =>
    have hlm : l ∈ cs := List.mem_of_getLast? hl
    have kl := (lk.at l hlm).2
    have nle : e ≠ l := fun z => nd (z ▸ hlm)
    have nal := nac l hlm
    rw [ifN_s, onR_s]
    refine ⟨ka, kl, ka, trivial, q _ ?_ rfl ⟨ka, haz, ?_, ?_, ?_, ndn⟩⟩
    · exact (((sP_fr.mono (fun x z => Or.inr (Or.inl z))).trans (sP_fr.mono (fun x z => Or.inr (Or.inr (by rw [z]; exact hlm))))).trans (sP_fr.mono (fun x z => Or.inl z)))
    · rw [hP_sP, hPq_ne (by omega), hP_sP, hPq_ne (by omega), hP_sP, hPq_ne (by omega), p0]
      cases cs with
      | nil => cases hlm
      | cons b cs => rfl
    · rw [hP_sP, hPq_at, List.getLast?_append]; rfl
    · refine LK.snoc (h' := sP (sP (sP h e 4 none) l 4 (some e)) a 1 (some e)) ⟨he, ke, hs, ?_⟩ lk ndc (fun x hx => ⟨(lk.at x hx).1, rfl, rfl, ?_⟩)
      · rw [hP_sP, hPq_ne (by omega), hP_sP, hPq_ne (by omega), hP_sP, hPq_at]
      · have nxa := nac x hx
        have nxe : x ≠ e := fun z => nd (z ▸ hx)
        rw [hP_sP, hPq_ne (by omega), hl]
        by_cases c : l = x
        · rw [if_pos (by rw [c]), hP_sP, c, hPq_at]
        · rw [if_neg (fun z => c (Option.some.inj z)), hP_sP, hPq_ne (fun z => c z.1.symm), hP_sP, hPq_ne (fun z => nxe z.1)]
end ADDC
