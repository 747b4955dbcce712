/-! ===== covered and deepestPoint ===== -/
theorem countP_or {p q : Nat → Bool} : ∀ {l : List Nat}, (∀ x ∈ l, ¬ (p x = true ∧ q x = true)) → l.countP (fun x => p x || q x) = l.countP p + l.countP q := by
  intro l
  induction l with
  | nil => intro _; rfl
  | cons a l ih =>
    intro h
    have := ih (fun x hx => h x (List.mem_cons_of_mem _ hx))
    have ha := h a List.mem_cons_self
    rw [List.countP_cons, List.countP_cons, List.countP_cons, this]
    cases c1 : p a with
    | true => cases c2 : q a with
      | true => exact (ha ⟨c1, c2⟩).elim
      | false => simp; omega
    | false => cases c2 : q a with
      | true => simp; omega
      | false => simp
theorem countP_stretch {A B : Nat} : ∀ (m : Nat), (List.range' 0 m).countP (fun n => decide (A ≤ n ∧ n < B)) = min B m - A := by
  intro m
  induction m with
  | zero => show 0 = _; omega
  | succ m ih =>
    rw [List.range'_concat, List.countP_append, ih, Nat.zero_add, Nat.one_mul, List.countP_singleton]
    by_cases c : A ≤ m ∧ m < B
    · rw [decide_eq_true c, if_pos rfl]; omega
    · rw [decide_eq_false c, if_neg (by decide)]; omega
/-- some live one has the point p -/
def covd (M : MT) (l : List Nat) (p : Int) : Bool := l.any fun a => decide ((M 1 a).toInt ≤ p ∧ p ≤ (M 2 a).toInt)
theorem covd_iff {M : MT} {l : List Nat} {p : Int} : covd M l p = true ↔ ∃ a ∈ l, (M 1 a).toInt ≤ p ∧ p ≤ (M 2 a).toInt := by
  unfold covd; rw [List.any_eq_true]
  exact ⟨fun ⟨a, h, c⟩ => ⟨a, h, of_decide_eq_true c⟩, fun ⟨a, h, c⟩ => ⟨a, h, decide_eq_true c⟩⟩
theorem cvN_pos {M : MT} {T : Tr} {k : Nat} : 0 < cvN M (live M T) k ↔ covd M (live M T) ((k : Int) - 1000) = true := by
  unfold cvN
  rw [List.countP_pos_iff, covd_iff]
  constructor
  · rintro ⟨a, h, c⟩; have c := of_decide_eq_true c; exact ⟨a, h, by have := c.2; omega⟩
  · rintro ⟨a, h, c⟩; exact ⟨a, h, decide_eq_true ⟨(lvT h).2, by omega, by omega⟩⟩
/-- the covered points from lo on, so many -/
def covC (M : MT) (l : List Nat) (lo : Int) (k n : Nat) : Nat := (List.range' k n).countP fun (j : Nat) => covd M l (lo + (j : Int))
section COVR
variable {z : Nat × Nat} {d : Nat} {M M0 : MT} {Q : Option AV → MT → Prop} {N : Nat} {x y : Int32} {T : Tr} {W : Int}
theorem i_max {a b : Int32} : (if a < b then b else a).toInt = max a.toInt b.toInt := by
  by_cases c : a < b
  · rw [if_pos c]; rw [i_lt] at c; omega
  · rw [if_neg c]; rw [i_lt] at c; omega
theorem i_min {a b : Int32} : (if a < b then a else b).toInt = min a.toInt b.toInt := by
  by_cases c : a < b
  · rw [if_pos c]; rw [i_lt] at c; omega
  · rw [if_neg c]; rw [i_lt] at c; omega
theorem of_toInt {x : Int32} {v : Int} (h : x.toInt = v) : x = Int32.ofInt v := by
  rw [← h, Int32.ofInt_toInt]
theorem L_covd {lo : Int} {m : Nat} (hl : lo = max x.toInt (-1000)) (hm : (m : Int) = (min y.toInt 1000 - lo + 1).toNat) (hx : -2000 ≤ x.toInt ∧ x.toInt ≤ 2000) (hy : -2000 ≤ y.toInt ∧ y.toInt ≤ 2000) (hc : ∀ k, k < 2002 → M 12 k = nI (cvN M0 (live M0 T) k)) (hlen : (live M0 T).length ≤ 100) : ∀ (n k : Nat) (acc : Int32), k + n = m → Q (some (vi (acc + nI (covC M0 (live M0 T) lo k n)))) M → WK z d j_Mo_covered 50 [some (vr (some 0)), some (vi x), some (vi y), some (vi acc), some (vi (Int32.ofInt (lo + k)))] [] M Q := by
  have e1 : (1000 : Int32).toInt = 1000 := rfl
  have hp : ∀ k : Nat, k ≤ m → (Int32.ofInt (lo + k)).toInt = lo + k := fun k hk => by
    rw [Int32.toInt_ofInt]; exact bm (by omega) (by omega)
  intro n
  induction n with
  | zero =>
    intro k acc hk q
    refine M_covered_50 ?_
    have : (if y < (1000 : Int32) then y else (1000 : Int32)) < Int32.ofInt (lo + k) := by
      rw [i_lt, i_min, hp k (by omega), e1]; omega
    rw [if_pos this]
    rw [show covC M0 (live M0 T) lo k 0 = 0 from rfl, nI_0, i32_zero] at q
    exact q
  | succ n ih =>
    intro k acc hk q
    refine M_covered_50 ?_
    have hnot : ¬ (if y < (1000 : Int32) then y else (1000 : Int32)) < Int32.ofInt (lo + k) := by
      rw [i_lt, i_min, hp k (by omega), e1]; omega
    rw [if_neg hnot]
    obtain ⟨xk, ek⟩ := ix_low (x := Int32.ofInt (lo + k)) (k := 1000) (K := 1000) (n := 2002) rfl (by rw [hp k (by omega)]; omega) (by rw [hp k (by omega)]; omega) (by omega)
    rw [hp k (by omega)] at ek
    have enext : Int32.ofInt (lo + k) + 1 = Int32.ofInt (lo + (k + 1 : Nat)) := by
      rw [i_eq, i_add (by rw [hp k (by omega)]; show _ ≤ _ + (1 : Int); omega) (by rw [hp k (by omega)]; show _ + (1 : Int) < _; omega), hp k (by omega), hp (k + 1) (by omega)]
      show lo + k + 1 = _; omega
    have hcc : covC M0 (live M0 T) lo k (n + 1) = (if covd M0 (live M0 T) (lo + k) = true then 1 else 0) + covC M0 (live M0 T) lo (k + 1) n := by
      unfold covC; rw [List.range'_succ, List.countP_cons]; omega
    refine ⟨xk, ?_⟩
    have hb : cvN M0 (live M0 T) (Int32.ofInt (lo + k) + 1000).toNatClampNeg ≤ 100 := Nat.le_trans cvN_le hlen
    have hpos := cvN_pos (M := M0) (T := T) (k := (Int32.ofInt (lo + k) + 1000).toNatClampNeg)
    rw [show ((Int32.ofInt (lo + k) + 1000).toNatClampNeg : Int) - 1000 = lo + k by omega] at hpos
    have h1 : (Int32.ofInt (lo + k) + 1000).toNatClampNeg < 2002 := xk.2
    rw [hc _ h1, enext]
    rw [hcc] at q
    by_cases cp : covd M0 (live M0 T) (lo + k) = true
    · rw [if_pos (by rw [← nI_0]; exact nI_lt (hpos.mpr cp) (by omega))]
      rw [if_pos cp, ← nI_add, show nI 1 = (1 : Int32) from rfl, ← i32_assoc] at q
      exact ih (k + 1) _ (by omega) q
    · have h0 : cvN M0 (live M0 T) (Int32.ofInt (lo + k) + 1000).toNatClampNeg = 0 := by
        have : ¬ 0 < cvN M0 (live M0 T) (Int32.ofInt (lo + k) + 1000).toNatClampNeg := fun h => cp (hpos.mp h)
        omega
      rw [h0, nI_0, if_neg (by decide), i32_zero]
      rw [if_neg cp, Nat.zero_add] at q
      exact ih (k + 1) _ (by omega) q
def covLo (x : Int32) : Int := max x.toInt (-1000)
def covM (x y : Int32) : Nat := (min y.toInt 1000 - covLo x + 1).toNat
theorem S_covered (I : TI M T N W) (hd : 2 < d) (q1 : ¬ (-2000 ≤ x.toInt ∧ x.toInt ≤ y.toInt ∧ y.toInt ≤ 2000) → Q (some (vi 0)) (thn M 1)) (q2 : (-2000 ≤ x.toInt ∧ x.toInt ≤ y.toInt ∧ y.toInt ≤ 2000) → ∀ M', PCov (thn M 0) M' → Q (some (vi (nI (covC M (live M T) (covLo x) 0 (covM x y))))) M') : WQ z d j_Mo_covered [vr (some 0), vi x, vi y] M Q := by
  have m1 : (-2000 : Int32).toInt = -2000 := rfl
  have m2 : (2000 : Int32).toInt = 2000 := rfl
  have I0 : TI (thn M 0) T N W := TI_thn I
  have hlen : (live M T).length ≤ 100 := by have := I.len; have := I.2.2.2.2.2.2.2.2.2.1; omega
  refine M_covered_0 ⟨by omega, S_in (fun c1 => onI_1 ⟨by omega, S_in (fun c2 => onI_1 ⟨by omega, S_layCover (N := N) I0.1 I0.2.1 I0.2.2.2.2.2.2.1 (fun M' hp hc => ?_)⟩) (fun c => onI_0 (S_fails' (by omega) (q1 fun k => c ?_)))⟩) (fun c => onI_0 (S_fails' (by omega) (q1 fun k => c ?_)))⟩
  · rw [m1, m2] at c1; rw [m2] at c2
    have hmax : (if x < (-1000 : Int32) then (-1000 : Int32) else x) = Int32.ofInt (covLo x + (0 : Nat)) := by
      refine of_toInt ?_
      rw [i_max]; unfold covLo; show max x.toInt (-1000) = max x.toInt (-1000) + ((0 : Nat) : Int); omega
    rw [hmax]
    refine L_covd (M0 := M) (T := T) rfl (m := covM x y) (by unfold covM; rfl) ⟨c1.1, c1.2⟩ (by omega) (fun k hk => ?_) hlen (covM x y) 0 0 (by omega) ?_
    · have e : cvN (thn M 0) (live M T) k = cvN M (live M T) k := by
        unfold cvN
        refine List.countP_congr (fun a _ => ?_)
        unfold cvB
        rw [thn_ne (by decide), thn_ne (by decide), thn_ne (by decide)]
      rw [hc k hk, cvI_N I0, live_thn, e]
    · rw [i32_comm, i32_zero]; exact q2 ⟨c1.1, c2.1, c2.2⟩ M' hp
  · rw [m2]; omega
  · rw [m1, m2]; omega
end COVR
section COVC
variable {g : AHp} {c t b : Nat} {na : Nat → Nat} {K : MT} {T : Tr} {N : Nat} {W : Int} {lim : Nat × Nat} {d : Nat} {R : RT} {X : XT} {x y : Int32}
theorem C_cov43 (O : RO g c t b na K T N W) (hd : 1 < d) (hx : -2000 ≤ x.toInt) (hxy : x.toInt ≤ y.toInt) (hy : y.toInt ≤ 2000) (q : R (some (vi (nI (covC K (live K T) (covLo x) 0 (covM x y))))) g) : ∀ (S P : List Nat) (u : Int32) (l6 l7 : Option AV), live K T = P ++ S → x.toInt ≤ u.toInt → u.toInt ≤ 2001 → (∀ j ∈ P, ∀ p, (K 1 j).toInt ≤ p → p ≤ (K 2 j).toInt → p ≤ y.toInt → p < u.toInt) → (∀ j ∈ S, ∀ p, (K 1 j).toInt ≤ p → p < u.toInt → x.toInt ≤ p → covd K P p = true) →
    WP lim d j_It_covered 43 [some (vr (some c)), some (vi x), some (vi y), some (vi (nI (covC K P (covLo x) 0 (covM x y)))), some (vi u), some (vr (oa na (hdI S))), l6, l7] [] g R X := by
  intro S
  induction S with
  | nil =>
    intro P u l6 l7 h _ _ _ _
    refine B_It_covered_43 ?_
    rw [show hdI [] = (-1 : Int32) from rfl, oa_n, ifN_n]
    rw [List.append_nil] at h
    rw [← h]; exact ⟨rfl, q⟩
  | cons i S ih =>
    intro P u l6 l7 h hu hu2 hP hS
    have hi := O.at h
    have hb := O.2.2.1.2.2.2.2.2.2.1 i (O.2.2.1.lt hi).1
    have hap : ∀ p, covd K (P ++ [i]) p = (covd K P p || decide ((K 1 i).toInt ≤ p ∧ p ≤ (K 2 i).toInt)) := fun p => by unfold covd; rw [List.any_append]; simp
    have emx : (if K 1 i < u then u else K 1 i).toInt = max (K 1 i).toInt u.toInt := i_max
    have emn : (if K 2 i < y then K 2 i else y).toInt = min (K 2 i).toInt y.toInt := i_min
    refine B_It_covered_43 ?_
    rw [show hdI (i :: S) = nI i from rfl, oa_s (O.2.1.lt hi), ifN_s, onR_s, O.2.1.lo hi, onR_s, O.2.1.hi hi, onR_s, onR_s]
    generalize (if K 1 i < u then u else K 1 i) = bg at emx ⊢
    generalize (if K 2 i < y then K 2 i else y) = en at emn ⊢
    refine ⟨O.2.1.kn hi, O.2.1.kn hi, ?_⟩
    split
    · rename_i c1; rw [i_lt, emx, emn] at c1
      have hcc : covC K (P ++ [i]) (covLo x) 0 (covM x y) = covC K P (covLo x) 0 (covM x y) := by
        unfold covC
        refine List.countP_congr (fun n hn => ?_)
        rw [List.mem_range'_1] at hn
        rw [hap, Bool.or_eq_true]
        have hlo : covLo x = max x.toInt (-1000) := rfl
        have hM : covM x y = (min y.toInt 1000 - covLo x + 1).toNat := rfl
        constructor
        · rintro (h1 | h1)
          · exact h1
          · have h1 := of_decide_eq_true h1
            exact hS i List.mem_cons_self _ h1.1 (by omega) (by omega)
        · exact fun h1 => Or.inl h1
      have := fun l6 l7 => ih (P ++ [i]) u l6 l7 (by rw [h]; simp) hu hu2 (fun j hj p p1 p2 p3 => ?_) (fun j hj p p1 p2 p3 => ?_)
      · rw [hcc] at this
        exact O.next h (by omega) (onO_v (this _ _))
      · rcases List.mem_append.mp hj with hj | hj
        · exact hP j hj p p1 p2 p3
        · rw [List.mem_singleton.mp hj] at p1 p2; omega
      · rw [hap, hS j (List.mem_cons_of_mem _ hj) p p1 p2 p3]; rfl
    · rename_i c1; rw [i_lt, emx, emn] at c1
      have hlo : covLo x = max x.toInt (-1000) := rfl
      have hM : covM x y = (min y.toInt 1000 - covLo x + 1).toNat := rfl
      have hcc : nI (covC K (P ++ [i]) (covLo x) 0 (covM x y)) = nI (covC K P (covLo x) 0 (covM x y)) + ((en - bg) + 1) := by
        have e1 : covC K (P ++ [i]) (covLo x) 0 (covM x y) = covC K P (covLo x) 0 (covM x y) + (en.toInt - bg.toInt + 1).toNat := by
          unfold covC
          have : (List.range' 0 (covM x y)).countP (fun n => decide ((bg.toInt - covLo x).toNat ≤ n ∧ n < (en.toInt - covLo x + 1).toNat)) = (en.toInt - bg.toInt + 1).toNat := by
            rw [countP_stretch]; omega
          rw [← this, ← countP_or]
          · refine List.countP_congr (fun n hn => ?_)
            rw [List.mem_range'_1] at hn
            rw [hap, Bool.or_eq_true, Bool.or_eq_true, decide_eq_true_iff, decide_eq_true_iff]
            constructor
            · rintro (h1 | h1)
              · exact Or.inl h1
              · by_cases h2 : covLo x + n < u.toInt
                · exact Or.inl (hS i List.mem_cons_self _ h1.1 h2 (by omega))
                · exact Or.inr (by omega)
            · rintro (h1 | h1)
              · exact Or.inl h1
              · exact Or.inr (by omega)
          · rintro n hn ⟨h1, h2⟩
            rw [List.mem_range'_1] at hn
            have h2 := of_decide_eq_true h2
            obtain ⟨j, hj, h3⟩ := covd_iff.mp h1
            have := hP j hj _ h3.1 h3.2 (by omega)
            omega
        have e3 : (en - bg) + 1 = nI (en.toInt - bg.toInt + 1).toNat := by
          have s1 : (en - bg).toInt = en.toInt - bg.toInt := i_sub (by omega) (by omega)
          rw [i_eq, i_add (by rw [s1]; show _ ≤ _ + (1 : Int); omega) (by rw [s1]; show _ + (1 : Int) < _; omega), s1, nI_toInt (by omega)]
          show _ + (1 : Int) = _; omega
        rw [e1, ← nI_add, e3]
      have eu : (en + 1).toInt = en.toInt + 1 := i_add (by show _ ≤ _ + (1 : Int); omega) (by show _ + (1 : Int) < _; omega)
      have := fun l6 l7 => ih (P ++ [i]) (en + 1) l6 l7 (by rw [h]; simp) (by rw [eu]; omega) (by rw [eu]; omega) (fun j hj p p1 p2 p3 => ?_) (fun j hj p p1 p2 p3 => ?_)
      · rw [hcc] at this
        exact O.next h (by omega) (onO_v (this _ _))
      · rw [eu]
        rcases List.mem_append.mp hj with hj | hj
        · have := hP j hj p p1 p2 p3; omega
        · rw [List.mem_singleton.mp hj] at p1 p2; omega
      · rw [eu] at p2
        rw [hap, Bool.or_eq_true, decide_eq_true_iff]
        have := O.after h j hj
        exact Or.inr (by omega)
theorem C_covered (O : RO g c t b na K T N W) (hd : 1 < d) (q1 : ¬ (-2000 ≤ x.toInt ∧ x.toInt ≤ y.toInt ∧ y.toInt ≤ 2000) → thr lim X 1 g) (q2 : (-2000 ≤ x.toInt ∧ x.toInt ≤ y.toInt ∧ y.toInt ≤ 2000) → R (some (vi (nI (covC K (live K T) (covLo x) 0 (covM x y))))) g) : WM lim d j_It_covered [vr (some c), vi x, vi y] g R X := by
  have m1 : (-2000 : Int32).toInt = -2000 := rfl
  have m2 : (2000 : Int32).toInt = 2000 := rfl
  refine B_It_covered_0 ?_
  split
  · rename_i c1; rw [i_lt, m1] at c1; exact ⟨rfl, q1 (by omega)⟩
  · rename_i c1; rw [i_lt, m1] at c1
    split
    · rename_i c2; rw [i_lt, m2] at c2; exact ⟨rfl, q1 (by omega)⟩
    · rename_i c2; rw [i_lt, m2] at c2
      split
      · rename_i c3; rw [i_lt] at c3; exact ⟨rfl, q1 (by omega)⟩
      · rename_i c3; rw [i_lt] at c3
        refine O.first hd (onO_v ?_)
        have e0 : covC K [] (covLo x) 0 (covM x y) = 0 := by
          unfold covC; rw [List.countP_eq_zero]; intro a _ h; cases h
        have := C_cov43 (R := R) (X := X) (lim := lim) O hd (by omega) (by omega) (by omega) (q2 ⟨by omega, by omega, by omega⟩) (live K T) [] x none none rfl (by omega) (by omega) (fun j hj => by cases hj) (fun j hj p p1 p2 p3 => by omega)
        rw [e0, nI_0] at this
        exact this
end COVC
