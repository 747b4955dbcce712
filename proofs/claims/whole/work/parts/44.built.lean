/-! ===== rebuilding: the tree of a row ===== -/
def bt : Nat → List Nat → Tr
  | 0, _ => .leaf ()
  | f + 1, l => match l.drop (l.length / 2) with
    | [] => .leaf ()
    | m :: r => .branch m (bt f (l.take (l.length / 2))) (bt f r)
theorem bt_nil : ∀ f, bt f [] = .leaf () := by intro f; cases f <;> rfl
theorem bt_split {l : List Nat} (h : l ≠ []) : ∃ a m r, l = a ++ m :: r ∧ a.length = l.length / 2 ∧ a.length + r.length + 1 = l.length ∧ ∀ f, bt (f + 1) l = .branch m (bt f a) (bt f r) := by
  have hl : 0 < l.length := List.length_pos_iff.mpr h
  cases c : l.drop (l.length / 2) with
  | nil => have := congrArg List.length c; rw [List.length_drop, List.length_nil] at this; omega
  | cons m r =>
    have e : l = l.take (l.length / 2) ++ m :: r := by rw [← c, List.take_append_drop]
    have e1 : (l.take (l.length / 2)).length = l.length / 2 := by rw [List.length_take]; omega
    refine ⟨_, m, r, e, e1, ?_, fun f => ?_⟩
    · have := congrArg List.length c; rw [List.length_drop, List.length_cons] at this; omega
    · show (match l.drop (l.length / 2) with
        | [] => Lean.RArray.leaf ()
        | m :: r => Lean.RArray.branch m (bt f (l.take (l.length / 2))) (bt f r)) = _
      rw [c]
theorem ino_bt : ∀ (f : Nat) (l : List Nat), l.length < 2 ^ f → ino (bt f l) = l := by
  intro f
  induction f with
  | zero => intro l h; have : l.length = 0 := by rw [Nat.pow_zero] at h; omega
            rw [List.length_eq_zero_iff.mp this]; rfl
  | succ f ih =>
    intro l h
    by_cases c : l = []
    · rw [c, bt_nil]; rfl
    · obtain ⟨a, m, r, e, e1, e2, e3⟩ := bt_split c
      rw [Nat.pow_succ] at h
      rw [e3, ino_b, ih a (by omega), ih r (by omega), ← e]
theorem tht_bt : ∀ (f : Nat) (l : List Nat), tht (bt f l) ≤ f := by
  intro f
  induction f with
  | zero => intro l; exact Nat.le_refl _
  | succ f ih =>
    intro l
    by_cases c : l = []
    · rw [c, bt_nil]; exact Nat.zero_le _
    · obtain ⟨a, m, r, e, e1, e2, e3⟩ := bt_split c
      rw [e3]; show 1 + max (tht (bt f a)) (tht (bt f r)) ≤ f + 1
      have := ih a; have := ih r; omega
def cnt : Tr → Nat → Nat
  | .leaf _, _ => 0
  | .branch _ _ _, 0 => 1
  | .branch _ l r, j + 1 => cnt l j + cnt r j
def lvN : Nat → Nat → Nat → Nat
  | 0, _, _ => 0
  | f + 1, c, j => if c = 0 then 0 else match j with
    | 0 => 1
    | j + 1 => lvN f (c / 2) j + lvN f (c - c / 2 - 1) j
theorem cnt_bt : ∀ (f : Nat) (l : List Nat) (j : Nat), cnt (bt f l) j = lvN f l.length j := by
  intro f
  induction f with
  | zero => intro l j; rfl
  | succ f ih =>
    intro l j
    by_cases c : l = []
    · rw [c, bt_nil]; rfl
    · obtain ⟨a, m, r, e, e1, e2, e3⟩ := bt_split c
      have hl : ¬ l.length = 0 := fun h => c (List.length_eq_zero_iff.mp h)
      rw [e3]
      show _ = (if l.length = 0 then 0 else match j with | 0 => 1 | j + 1 => lvN f (l.length / 2) j + lvN f (l.length - l.length / 2 - 1) j)
      rw [if_neg hl]
      cases j with
      | zero => rfl
      | succ j => show cnt (bt f a) j + cnt (bt f r) j = lvN f (l.length / 2) j + lvN f (l.length - l.length / 2 - 1) j; rw [ih, ih, e1]; congr 2; omega
def lE (c : Nat) : Nat := Nat.log2 (c + 1)
def lP (c : Nat) : Prop := c + 1 = 2 ^ lE c ∧ 0 < lE c
def lD (c : Nat) : Nat := if c + 1 = 2 ^ lE c ∧ 0 < lE c then lE c - 1 else lE c
set_option maxRecDepth 100000 in
theorem lv_facts : ∀ c, c < 101 → (∀ j, j < lD c → 0 < lvN 7 c (j + 1)) ∧ lvN 7 c (lD c + 1) = 0 ∧ (lvN 7 c (lD c) < 2 ^ (lD c) ↔ ¬ (c + 1 = 2 ^ lE c ∧ 0 < lE c)) ∧ (c + 1 = 2 ^ lE c ∧ 0 < lE c → lvN 7 c (lE c) = 0) ∧ lD c < 7 ∧ (∀ j, j < 8 → lvN 7 c j < 101) := by decide +kernel
theorem lP_dec {c : Nat} : lP c ↔ (c + 1 = 2 ^ lE c ∧ 0 < lE c) := Iff.rfl
/-- red just those at depth E -/
def ColT (M : MT) (E : Nat) : Nat → Tr → Prop
  | _, .leaf _ => True
  | dep, .branch n l r => M 8 n = (if dep = E then 1 else 0) ∧ ColT M E (dep + 1) l ∧ ColT M E (dep + 1) r
theorem RB_bt {M : MT} : ∀ (e f : Nat) (l : List Nat) (dep : Nat), 2 ^ e ≤ l.length + 1 → l.length + 1 ≤ 2 ^ (e + 1) → l.length < 2 ^ f → ColT M (dep + e) dep (bt f l) → RB (rd M) (bt f l) e ∧ (0 < e → isRedT (rd M) (bt f l) = false) := by
  intro e
  induction e with
  | zero =>
    intro f l dep h1 h2 h3 hc
    refine ⟨?_, fun h => absurd h (Nat.lt_irrefl _)⟩
    by_cases c : l = []
    · rw [c, bt_nil]; exact rfl
    · obtain ⟨a, m, r, e, e1, e2, e3⟩ := bt_split c
      cases f with
      | zero => rw [Nat.pow_zero] at h3; exact absurd (List.length_eq_zero_iff.mp (by omega)) c
      | succ f =>
        have ha : a = [] := List.length_eq_zero_iff.mp (by simp only [Nat.zero_add, Nat.pow_one] at h2; omega)
        have hr : r = [] := List.length_eq_zero_iff.mp (by simp only [Nat.zero_add, Nat.pow_one] at h2; omega)
        rw [e3, ha, hr, bt_nil] at hc ⊢
        exact Or.inl ⟨rd_t (by rw [hc.1, if_pos (by omega)]; decide), rfl, rfl, rfl, rfl⟩
  | succ e ih =>
    intro f l dep h1 h2 h3 hc
    have hpos : 0 < 2 ^ e := Nat.pow_pos (by decide)
    rw [Nat.pow_succ] at h1
    rw [Nat.pow_succ, Nat.pow_succ] at h2
    have c : l ≠ [] := fun c => by rw [c, List.length_nil] at h1; omega
    obtain ⟨a, m, r, ee, e1, e2, e3⟩ := bt_split c
    cases f with
    | zero => rw [Nat.pow_zero] at h3; exact absurd (List.length_eq_zero_iff.mp (by omega)) c
    | succ f =>
      rw [Nat.pow_succ] at h3
      rw [e3] at hc ⊢
      obtain ⟨c1, c2, c3⟩ := hc
      have hm : rd M m = false := rd_f (by rw [c1, if_neg (by omega)])
      rw [show dep + (e + 1) = dep + 1 + e by omega] at c2 c3
      exact ⟨Or.inr ⟨hm, e, rfl, (ih f a (dep + 1) (by omega) (by rw [Nat.pow_succ]; omega) (by omega) c2).1, (ih f r (dep + 1) (by omega) (by rw [Nat.pow_succ]; omega) (by omega) c3).1⟩, fun _ => hm⟩
/-- a row's tree, coloured so, is red and black, and its root is black -/
theorem FinT_bt {M : MT} {l : List Nat} (hl : l.length ≤ 100) (e : EncZ M (bt 7 l) []) (hc : ColT M (lE l.length) 0 (bt 7 l)) : FinT M (bt 7 l) l := by
  have h1 : 2 ^ lE l.length ≤ l.length + 1 := Nat.log2_self_le (by omega)
  have h2 : l.length + 1 < 2 ^ (lE l.length + 1) := Nat.lt_log2_self
  have := RB_bt (M := M) (lE l.length) 7 l 0 h1 (by omega) (by omega) (by rw [Nat.zero_add]; exact hc)
  refine ⟨e, ino_bt 7 l (by omega), ⟨_, this.1⟩, ?_⟩
  by_cases c : l = []
  · rw [c, bt_nil]; rfl
  · refine this.2 ?_
    have hp : 0 < l.length := List.length_pos_iff.mpr c
    by_cases q : 0 < lE l.length
    · exact q
    · rw [show lE l.length = 0 by omega] at h2; simp only [Nat.zero_add, Nat.pow_one] at h2; omega
def DepT (M : MT) : Nat → Tr → Prop
  | _, .leaf _ => True
  | dep, .branch n l r => M 11 n = nI dep ∧ DepT M (dep + 1) l ∧ DepT M (dep + 1) r
theorem DepT_congr {M M' : MT} : ∀ {t : Tr} {dep : Nat}, (∀ x ∈ ino t, M 11 x = M' 11 x) → DepT M dep t → DepT M' dep t := by
  intro t
  induction t with
  | leaf _ => intro _ _ _; trivial
  | branch n l r hl hr =>
    intro dep h ⟨e1, e2, e3⟩
    exact ⟨(h n (List.mem_append_right _ List.mem_cons_self)) ▸ e1, hl (fun x hx => h x (List.mem_append_left _ hx)) e2, hr (fun x hx => h x (List.mem_append_right _ (List.mem_cons_of_mem _ hx))) e3⟩
theorem ColT_dep {M : MT} {E : Nat} (hE : E < 500) : ∀ {t : Tr} {dep : Nat}, dep + tht t < 500 → DepT M dep t → (∀ x ∈ ino t, M 8 x = if M 11 x = nI E then 1 else 0) → ColT M E dep t := by
  intro t
  induction t with
  | leaf _ => intro _ _ _ _; trivial
  | branch n l r hl hr =>
    intro dep hd ⟨e1, e2, e3⟩ h
    have hd : dep + (1 + max (tht l) (tht r)) < 500 := hd
    refine ⟨?_, hl (by omega) e2 (fun x hx => h x (List.mem_append_left _ hx)), hr (by omega) e3 (fun x hx => h x (List.mem_append_right _ (List.mem_cons_of_mem _ hx)))⟩
    rw [h n (List.mem_append_right _ List.mem_cons_self), e1]
    by_cases c : dep = E
    · rw [if_pos (by rw [c]), if_pos c]
    · rw [if_neg (fun q => c (nI_inj (by omega) hE q)), if_neg c]
theorem ColT_black {M : MT} {E : Nat} : ∀ {t : Tr} {dep : Nat}, (∀ x ∈ ino t, M 8 x = 0) → (∀ j, dep + j = E → cnt t j = 0) → ColT M E dep t := by
  intro t
  induction t with
  | leaf _ => intro _ _ _; trivial
  | branch n l r hl hr =>
    intro dep h hc
    refine ⟨?_, hl (fun x hx => h x (List.mem_append_left _ hx)) (fun j hj => ?_), hr (fun x hx => h x (List.mem_append_right _ (List.mem_cons_of_mem _ hx))) (fun j hj => ?_)⟩
    · have : dep ≠ E := fun c => by
        have := hc 0 (by omega)
        exact absurd this (by show ¬ (1 = 0); decide)
      rw [if_neg this]; exact h n (List.mem_append_right _ List.mem_cons_self)
    · have : cnt l j + cnt r j = 0 := hc (j + 1) (by omega)
      omega
    · have : cnt l j + cnt r j = 0 := hc (j + 1) (by omega)
      omega
theorem nI_mid {a b : Nat} (h : a + b < 2 ^ 31) : (nI a + nI b) / 2 = nI ((a + b) / 2) := by
  rw [nI_add, i_eq, Int32.toInt_div_of_ne_right _ _ (by decide), nI_toInt h, nI_toInt (by omega)]
  show (((a + b : Nat) : Int)).tdiv 2 = _
  rw [Int.tdiv_eq_ediv_of_nonneg (by omega)]
  omega
def BtP (M M' : MT) (l : List Nat) (dep : Nat) (above : Int32) (t : Tr) : Prop :=
  Enc M' above t ∧ (∀ x ∈ l, M' 8 x = 0) ∧ DepT M' dep t ∧ (∀ i, M' 10 i = M 10 i + nI (if dep ≤ i then cnt t (i - dep) else 0)) ∧ (∀ k i, k ≠ 10 → ((k ≠ 5 ∧ k ≠ 6 ∧ k ≠ 7 ∧ k ≠ 8 ∧ k ≠ 11) ∨ i ∉ l) → M' k i = M k i)
theorem BtP_nil {M : MT} {dep : Nat} {above : Int32} {u : Unit} : BtP M M [] dep above (.leaf u) := by
  refine ⟨trivial, fun x hx => (by cases hx), trivial, fun i => ?_, fun k i _ _ => rfl⟩
  have : (if dep ≤ i then cnt (.leaf u) (i - dep) else 0) = 0 := by split <;> rfl
  rw [this, nI_0]; exact (i32_zero _).symm
section BUILT
variable {z : Nat × Nat}
theorem S_built : ∀ (f : Nat) (l : List Nat) (a dep d : Nat) (above : Int32) (M : MT) (Q : Option AV → MT → Prop), l.length < 2 ^ f → (∀ j b, l[j]? = some b → M 9 (a + j) = nI b) → (∀ x ∈ l, x < 500) → l.Nodup → a + l.length ≤ 500 → dep + f ≤ 500 → f ≤ d → (∀ M', BtP M M' l dep above (bt f l) → Q (some (vi (rootOf (bt f l)))) M') → WQ z d j_Mo_built [vr (some 0), vi (nI a), vi (nI (a + l.length)), vi above, vi (nI dep)] M Q := by
  intro f
  induction f with
  | zero =>
    intro l a dep d above M Q h _ _ _ _ _ _ q
    have hl : l = [] := List.length_eq_zero_iff.mp (by rw [Nat.pow_zero] at h; omega)
    subst hl
    refine M_built_0 ?_
    rw [if_pos (show nI a = nI (a + ([] : List Nat).length) from rfl)]
    exact q M BtP_nil
  | succ f ih =>
    intro l a dep d above M Q h hrow hb hn ha hdp hd q
    refine M_built_0 ?_
    by_cases c : l = []
    · subst c
      rw [if_pos (show nI a = nI (a + ([] : List Nat).length) from rfl)]
      rw [bt_nil] at q
      exact q M BtP_nil
    · obtain ⟨A, m, R, e, e1, e2, e3⟩ := bt_split c
      rw [e3] at q
      rw [Nat.pow_succ] at h
      have hm5 : m < 500 := hb m (by rw [e]; simp)
      have xm : ix (nI m) 500 := ix_nI hm5 (by decide)
      have xd : ix (nI dep) 500 := ix_nI (by omega) (by decide)
      have hm : M 9 (a + A.length) = nI m := hrow A.length m (by rw [e]; simp)
      have hne : ¬ nI a = nI (a + l.length) := by
        rw [i_eq, nI_toInt (by omega), nI_toInt (by omega)]; omega
      have hmid : (nI a + nI (a + l.length)) / 2 = nI (a + A.length) := by
        rw [nI_mid (by omega)]; congr 1; omega
      rw [e, List.nodup_append, List.nodup_cons] at hn
      obtain ⟨nA, ⟨nm, nR⟩, nAR⟩ := hn
      have mA : m ∉ A := fun x => nAR m x m List.mem_cons_self rfl
      have hAR : ∀ x ∈ A, x ∉ R ∧ x ≠ m := fun x hx => ⟨fun y => nAR x hx x (List.mem_cons_of_mem _ y) rfl, nAR x hx m List.mem_cons_self⟩
      have hRA : ∀ x ∈ R, x ∉ A ∧ x ≠ m := fun x hx => ⟨fun y => nAR x y x (List.mem_cons_of_mem _ hx) rfl, fun y => nm (y ▸ hx)⟩
      rw [if_neg hne, hmid, nI_clamp (by omega), hm, nI_clamp (by omega), nI_clamp (by omega), nI_1, nI_1]
      refine ⟨ix_nI (by omega) (by decide), xm, fun M1 e1' => ⟨xm, fun M2 e2' => ⟨xm, fun M3 e3' => ⟨xd, xd, fun M4 e4' => ⟨by omega, ?_⟩⟩⟩⟩⟩
      have v4 : ∀ k i, ¬ (k = 10 ∧ i = dep) → ¬ (i = m ∧ (k = 7 ∨ k = 8 ∨ k = 11)) → M4 k i = M k i := by
        intro k i h1 h2; rw [e4', up2_ne h1, e3', up2_ne (by omega), e2', up2_ne (by omega), e1', up2_ne (by omega)]
      have v7 : M4 7 m = above := by rw [e4', up2_ne (by omega), e3', up2_ne (by omega), e2', up2_ne (by omega), e1', up2_at]
      have v8 : M4 8 m = 0 := by rw [e4', up2_ne (by omega), e3', up2_ne (by omega), e2', up2_at]
      have v11 : M4 11 m = nI dep := by rw [e4', up2_ne (by omega), e3', up2_at]
      have v10 : M4 10 dep = M 10 dep + 1 := by rw [e4', up2_at, e3', up2_ne (by omega), e2', up2_ne (by omega), e1', up2_ne (by omega)]
      clear e1' e2' e3' e4'
      refine ih A a (dep + 1) (d - 1) (nI m) M4 _ (by omega) (fun j b hj => ?_) (fun x hx => hb x (by rw [e]; exact List.mem_append_left _ hx)) nA (by omega) (by omega) (by omega) (fun M5 B5 => ?_)
      · rw [v4 9 _ (by omega) (by omega)]
        exact hrow j b (by rw [e, List.getElem?_append_left (by have := (List.getElem?_eq_some_iff.mp hj).1; exact this)]; exact hj)
      · show ix (nI m) 500 ∧ _
        refine ⟨xm, fun M9 e9 => ⟨by omega, ?_⟩⟩
        obtain ⟨E5, Z5, D5, C5, F5⟩ := B5
        rw [show a + l.length = a + A.length + 1 + R.length by omega]
        refine ih R (a + A.length + 1) (dep + 1) (d - 1) (nI m) M9 _ (by omega) (fun j b hj => ?_) (fun x hx => hb x (by rw [e]; exact List.mem_append_right _ (List.mem_cons_of_mem _ hx))) nR (by omega) (by omega) (by omega) (fun M10 B10 => ?_)
        · rw [e9, up2_ne (by omega), F5 9 _ (by decide) (Or.inl (by decide)), v4 9 _ (by omega) (by omega), show a + A.length + 1 + j = a + (A.length + (1 + j)) by omega]
          exact hrow (A.length + (1 + j)) b (by rw [e, List.getElem?_append_right (by omega), show A.length + (1 + j) - A.length = j + 1 by omega, List.getElem?_cons_succ]; exact hj)
        · show ix (nI m) 500 ∧ _
          refine ⟨xm, fun M14 e14 => q M14 ?_⟩
          obtain ⟨E10, Z10, D10, C10, F10⟩ := B10
          have iA : ino (bt f A) = A := ino_bt f A (by omega)
          have iR : ino (bt f R) = R := ino_bt f R (by omega)
          have tA : ∀ k i, k ≠ 10 → i ∈ A → M14 k i = M5 k i := fun k i hk hi => by
            rw [e14, up2_ne (by have := (hAR i hi).2; omega), F10 k i hk (Or.inr (hAR i hi).1), e9, up2_ne (by have := (hAR i hi).2; omega)]
          have tR : ∀ k i, k ≠ 10 → i ∈ R → M14 k i = M10 k i := fun k i hk hi => by
            rw [e14, up2_ne (by have := (hRA i hi).2; omega)]
          have tm : ∀ k, k ≠ 10 → k ≠ 5 → k ≠ 6 → M14 k m = M4 k m := fun k h1 h2 h3 => by
            rw [e14, up2_ne (by omega), F10 k m h1 (Or.inr nm), e9, up2_ne (by omega), F5 k m h1 (Or.inr mA)]
          refine ⟨⟨?_, ?_, ?_, Enc_congr (fun x hx => ?_) E5, Enc_congr (fun x hx => ?_) E10⟩, fun x hx => ?_, ⟨?_, DepT_congr (fun x hx => ?_) D5, DepT_congr (fun x hx => ?_) D10⟩, fun i => ?_, fun k i hk hi => ?_⟩
          · rw [tm 7 (by decide) (by decide) (by decide), v7]
          · rw [e14, up2_ne (by omega), F10 5 m (by decide) (Or.inr nm), e9, up2_at]
          · rw [e14, up2_at]
          · rw [iA] at hx; exact ⟨(tA 5 x (by decide) hx).symm, (tA 6 x (by decide) hx).symm, (tA 7 x (by decide) hx).symm⟩
          · rw [iR] at hx; exact ⟨(tR 5 x (by decide) hx).symm, (tR 6 x (by decide) hx).symm, (tR 7 x (by decide) hx).symm⟩
          · rw [e] at hx
            rcases List.mem_append.mp hx with hx | hx
            · rw [tA 8 x (by decide) hx]; exact Z5 x hx
            · rcases List.mem_cons.mp hx with rfl | hx
              · rw [tm 8 (by decide) (by decide) (by decide), v8]
              · rw [tR 8 x (by decide) hx]; exact Z10 x hx
          · rw [tm 11 (by decide) (by decide) (by decide), v11]
          · rw [iA] at hx; exact (tA 11 x (by decide) hx).symm
          · rw [iR] at hx; exact (tR 11 x (by decide) hx).symm
          · rw [e14, up2_ne (by omega), C10 i, e9, up2_ne (by omega), C5 i]
            rcases Nat.lt_trichotomy i dep with h | h | h
            · rw [if_neg (by omega), if_neg (by omega), if_neg (by omega), v4 10 i (by omega) (by omega), nI_0, i32_zero, i32_zero]
            · subst h
              rw [if_neg (by omega), if_neg (by omega), if_pos (Nat.le_refl _), v10, nI_0, i32_zero, i32_zero, Nat.sub_self]; rfl
            · rw [if_pos (by omega), if_pos (by omega), if_pos (by omega), v4 10 i (by omega) (by omega), i32_assoc, nI_add, show i - dep = (i - (dep + 1)) + 1 by omega]; rfl
          · rw [e] at hi
            have hi' : (k ≠ 5 ∧ k ≠ 6 ∧ k ≠ 7 ∧ k ≠ 8 ∧ k ≠ 11) ∨ (i ∉ A ∧ i ≠ m ∧ i ∉ R) := by
              rcases hi with h | h
              · exact Or.inl h
              · exact Or.inr ⟨fun x => h (List.mem_append_left _ x), fun x => h (List.mem_append_right _ (x ▸ List.mem_cons_self)), fun x => h (List.mem_append_right _ (List.mem_cons_of_mem _ x))⟩
            rw [e14, up2_ne (by omega), F10 k i hk (hi'.imp id (fun x => x.2.2)), e9, up2_ne (by omega), F5 k i hk (hi'.imp id (fun x => x.1)), v4 k i (by omega) (by omega)]
end BUILT
