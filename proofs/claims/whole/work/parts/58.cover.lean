/-! ===== how many live ones have a point ===== -/
theorem isum_count {p : Nat → Prop} [DecidablePred p] : ∀ {l : List Nat}, isum (fun a => if p a then 1 else 0) l = nI (l.countP fun a => decide (p a)) := by
  intro l
  induction l with
  | nil => rfl
  | cons a l ih =>
    show (if p a then 1 else 0) + isum _ l = _
    rw [ih, List.countP_cons]
    by_cases c : p a
    · rw [if_pos c, if_pos (decide_eq_true c), i32_comm, nI_1]
    · rw [if_neg c, if_neg (by rw [decide_eq_false c]; decide), i32_comm, i32_zero, Nat.add_zero]
theorem isum_add {f f' : Nat → Int32} : ∀ {l : List Nat}, isum (fun a => f a + f' a) l = isum f l + isum f' l := by
  intro l
  induction l with
  | nil => rfl
  | cons a l ih =>
    show f a + f' a + isum _ l = f a + isum f l + (f' a + isum f' l)
    rw [ih, i32_assoc, i32_assoc, ← i32_assoc (f' a), i32_comm (f' a) (isum f l), i32_assoc]
/-- live ones that have the point k - 1000 -/
abbrev cvB (M : MT) (k a : Nat) : Prop := M 4 a = 0 ∧ (M 1 a).toInt + 1000 ≤ k ∧ (k : Int) ≤ (M 2 a).toInt + 1000
/-- what one adds at k when the ends are marked -/
def dlt (M : MT) (k a : Nat) : Int32 := if M 4 a = 0 then (if (M 1 a).toInt + 1000 = k then 1 else if (M 2 a).toInt + 1001 = k then -1 else 0) else 0

theorem cv_step {M : MT} {k a : Nat} (h : (M 1 a).toInt ≤ (M 2 a).toInt) : (if cvB M (k + 1) a then (1 : Int32) else 0) = dlt M (k + 1) a + (if cvB M k a then 1 else 0) := by
  unfold cvB dlt
  by_cases c0 : M 4 a = 0
  · rw [if_pos c0]
    by_cases c1 : (M 1 a).toInt + 1000 = ((k + 1 : Nat) : Int)
    · rw [if_pos c1, if_pos ⟨c0, by omega, by omega⟩, if_neg (by omega)]; rfl
    · rw [if_neg c1]
      by_cases c2 : (M 2 a).toInt + 1001 = ((k + 1 : Nat) : Int)
      · rw [if_pos c2, if_neg (by omega), if_pos ⟨c0, by omega, by omega⟩]; rfl
      · rw [if_neg c2]
        by_cases c3 : (M 1 a).toInt + 1000 ≤ k ∧ (k : Int) ≤ (M 2 a).toInt + 1000
        · rw [if_pos ⟨c0, by omega, by omega⟩, if_pos ⟨c0, c3⟩]; rfl
        · rw [if_neg (by omega), if_neg (fun c => c3 c.2)]; rfl
  · rw [if_neg c0, if_neg (fun c => c0 c.1), if_neg (fun c => c0 c.1)]; rfl

theorem cv_zero {M : MT} {a : Nat} (h : -1000 ≤ (M 1 a).toInt) (h2 : (M 1 a).toInt ≤ (M 2 a).toInt) : (if cvB M 0 a then (1 : Int32) else 0) = dlt M 0 a := by
  unfold cvB dlt
  by_cases c0 : M 4 a = 0
  · rw [if_pos c0]
    by_cases c1 : (M 1 a).toInt + 1000 = ((0 : Nat) : Int)
    · rw [if_pos c1, if_pos ⟨c0, by omega, by omega⟩]
    · rw [if_neg c1, if_neg (by omega), if_neg (by omega)]
  · rw [if_neg c0, if_neg (fun c => c0 c.1)]

def cvI (M : MT) (N k : Nat) : Int32 := isum (fun a => if cvB M k a then 1 else 0) (List.range' 0 N)

def cvN (M : MT) (l : List Nat) (k : Nat) : Nat := l.countP fun a => decide (cvB M k a)
section COVER
variable {z : Nat × Nat} {d : Nat} {M M0 : MT} {Q : Option AV → MT → Prop} {N : Nat} {x y : Int32}
def PCov (M M' : MT) : Prop := ∀ r i, r ≠ 12 → M' r i = M r i
theorem L_cov2 (q : ∀ M', PCov M0 M' → (∀ k, k < 2002 → M' 12 k = 0) → WK z d j_Mo_layCover 24 [some (vr (some 0)), some (vi 0)] [] M' Q) : ∀ (n k : Nat) (M : MT), k + n = 2002 → PCov M0 M → (∀ j, j < k → M 12 j = 0) → WK z d j_Mo_layCover 2 [some (vr (some 0)), some (vi (nI k))] [] M Q := by
  intro n
  induction n with
  | zero =>
    intro k M hk hp h0
    have : k = 2002 := by omega
    subst this
    refine M_layCover_2 ?_
    rw [if_neg (by decide)]; exact q M hp h0
  | succ n ih =>
    intro k M hk hp h0
    refine M_layCover_2 ?_
    rw [show (2002 : Int32) = nI 2002 from rfl, if_pos (nI_lt (by omega) (by omega)), nI_clamp (by omega), nI_1]
    refine ⟨ix_nI (by omega) (by decide), ih (k + 1) _ (by omega) (fun r i hr => by rw [up2_ne (by omega)]; exact hp r i hr) (fun j hj => ?_)⟩
    by_cases c : j = k
    · rw [c, up2_at]
    · rw [up2_ne (by omega)]; exact h0 j (by omega)
theorem ix_low {x : Int32} {k : Int} {K : Int32} {n : Nat} (hK : K.toInt = k) (h1 : 0 ≤ x.toInt + k) (h2 : x.toInt + k < n) (hn : n < 5000) : ix (x + K) n ∧ ((x + K).toNatClampNeg : Int) = x.toInt + k := by
  have e : (x + K).toInt = x.toInt + k := by rw [i_add (by omega) (by omega), hK]
  have hi : ix (x + K) n := by rw [ix_iff, e]; omega
  refine ⟨hi, ?_⟩
  obtain ⟨j, hj, ej⟩ := ix_ex hi (by omega)
  rw [ej] at e ⊢
  rw [nI_clamp (by omega)]
  rw [nI_toInt (by omega)] at e; exact e
theorem L_cov24 (hN : M0 0 10 = nI N) (hN5 : N ≤ 500) (hr : ∀ a, a < N → -1000 ≤ (M0 1 a).toInt ∧ (M0 1 a).toInt ≤ (M0 2 a).toInt ∧ (M0 2 a).toInt ≤ 1000) (q : ∀ M', PCov M0 M' → (∀ k, k < 2002 → M' 12 k = isum (dlt M0 k) (List.range' 0 N)) → WK z d j_Mo_layCover 90 [some (vr (some 0)), some (vi 1)] [] M' Q) : ∀ (n i : Nat) (M : MT), i + n = N → PCov M0 M → (∀ k, k < 2002 → M 12 k = isum (dlt M0 k) (List.range' 0 i)) → WK z d j_Mo_layCover 24 [some (vr (some 0)), some (vi (nI i))] [] M Q := by
  intro n
  induction n with
  | zero =>
    intro i M hi hp h0
    have : i = N := by omega
    subst this
    refine M_layCover_24 ?_
    rw [hp 0 10 (by decide), hN, if_neg (nI_nlt (Nat.le_refl _) (by omega))]; exact q M hp h0
  | succ n ih =>
    intro i M hi hp h0
    have i5 : i < 500 := by omega
    have xi : ix (nI i) 500 := ix_nI i5 (by decide)
    have hri := hr i (by omega)
    have hs : ∀ k, isum (dlt M0 k) (List.range' 0 (i + 1)) = isum (dlt M0 k) (List.range' 0 i) + dlt M0 k i := fun k => by
      rw [List.range'_concat, isum_app, Nat.zero_add, Nat.one_mul]
      show _ = _; congr 1
      show dlt M0 k i + 0 = _; exact i32_zero _
    refine M_layCover_24 ?_
    rw [hp 0 10 (by decide), hN, if_pos (nI_lt (by omega) (by omega)), nI_clamp (by omega), nI_1, hp 4 i (by decide), hp 1 i (by decide)]
    obtain ⟨xl, el⟩ := ix_low (x := M0 1 i) (k := 1000) (K := 1000) (n := 2002) rfl (by omega) (by omega) (by omega)
    obtain ⟨xh, eh⟩ := ix_low (x := M0 2 i) (k := 1001) (K := 1001) (n := 2002) rfl (by omega) (by omega) (by omega)
    refine ⟨xi, ?_⟩
    split
    · rename_i c0
      refine ⟨xi, xl, xl, fun M1 e1 => ?_⟩
      have h2 : M1 2 i = M0 2 i := by rw [e1, up2_ne (by omega)]; exact hp 2 i (by decide)
      rw [h2]
      refine ⟨xi, xh, xh, fun M2 e2 => ih (i + 1) M2 (by omega) (fun r j hrj => ?_) (fun k hk => ?_)⟩
      · rw [e2, up2_ne (by omega), e1, up2_ne (by omega)]; exact hp r j hrj
      · rw [hs k, ← h0 k hk, e2]
        unfold dlt
        rw [if_pos c0]
        by_cases ch : k = (M0 2 i + 1001).toNatClampNeg
        · have hne : k ≠ (M0 1 i + 1000).toNatClampNeg := by omega
          rw [← ch, up2_at, e1, up2_ne (by omega), if_neg (by omega), if_pos (by omega)]
          exact Int32.sub_eq_add_neg _ _
        · rw [up2_ne (by omega), e1]
          by_cases cl : k = (M0 1 i + 1000).toNatClampNeg
          · rw [← cl, up2_at, if_pos (by omega)]
          · rw [up2_ne (by omega), if_neg (by omega), if_neg (by omega)]; exact (i32_zero _).symm
    · rename_i c0
      refine ih (i + 1) M (by omega) hp (fun k hk => ?_)
      rw [hs k, ← h0 k hk]; unfold dlt; rw [if_neg c0]; exact (i32_zero _).symm
theorem L_cov90 (hr : ∀ a, a < N → -1000 ≤ (M0 1 a).toInt ∧ (M0 1 a).toInt ≤ (M0 2 a).toInt ∧ (M0 2 a).toInt ≤ 1000) (q : ∀ M', PCov M0 M' → (∀ k, k < 2002 → M' 12 k = cvI M0 N k) → Q none M') : ∀ (n k : Nat) (M : MT), 0 < k → k + n = 2002 → PCov M0 M → (∀ j, j < k → M 12 j = cvI M0 N j) → (∀ j, k ≤ j → j < 2002 → M 12 j = isum (dlt M0 j) (List.range' 0 N)) → WK z d j_Mo_layCover 90 [some (vr (some 0)), some (vi (nI k))] [] M Q := by
  intro n
  induction n with
  | zero =>
    intro k M _ hk hp h0 _
    have : k = 2002 := by omega
    subst this
    refine M_layCover_90 ?_
    rw [if_neg (by decide)]; exact q M hp h0
  | succ n ih =>
    intro k M hk0 hk hp h0 h1
    obtain ⟨j, rfl⟩ : ∃ j, k = j + 1 := ⟨k - 1, by omega⟩
    refine M_layCover_90 ?_
    rw [show (2002 : Int32) = nI 2002 from rfl, if_pos (nI_lt (by omega) (by omega)), nI_pred, nI_clamp (by omega), nI_clamp (by omega), nI_1]
    have hstep : cvI M0 N (j + 1) = isum (dlt M0 (j + 1)) (List.range' 0 N) + cvI M0 N j := by
      unfold cvI
      rw [← isum_add]
      exact isum_congr (fun a ha => cv_step (hr a (by rw [List.mem_range'_1] at ha; omega)).2.1)
    refine ⟨ix_nI (by omega) (by decide), ix_nI (by omega) (by decide), ix_nI (by omega) (by decide), fun M1 e1 => ih (j + 1 + 1) M1 (by omega) (by omega) (fun r i hri => by rw [e1, up2_ne (by omega)]; exact hp r i hri) (fun i hi => ?_) (fun i hi hi2 => ?_)⟩
    · by_cases c : i = j + 1
      · rw [c, e1, up2_at, h1 (j + 1) (by omega) (by omega), h0 j (by omega), hstep]
      · rw [e1, up2_ne (by omega)]; exact h0 i (by omega)
    · rw [e1, up2_ne (by omega)]; exact h1 i (by omega) hi2
theorem S_layCover (hN : M 0 10 = nI N) (hN5 : N ≤ 500) (hr : ∀ a, a < N → -1000 ≤ (M 1 a).toInt ∧ (M 1 a).toInt ≤ (M 2 a).toInt ∧ (M 2 a).toInt ≤ 1000) (q : ∀ M', PCov M M' → (∀ k, k < 2002 → M' 12 k = cvI M N k) → Q none M') : WQ z d j_Mo_layCover [vr (some 0)] M Q := by
  refine M_layCover_0 ?_
  rw [← nI_0]
  refine L_cov2 (M0 := M) (fun M1 p1 z1 => ?_) 2002 0 M (by omega) (fun _ _ _ => rfl) (fun j hj => by omega)
  rw [← nI_0]
  refine L_cov24 (M0 := M) hN hN5 hr (fun M2 p2 z2 => ?_) N 0 M1 (by omega) p1 (fun k hk => by rw [z1 k hk]; rfl)
  rw [show (1 : Int32) = nI 1 from rfl]
  refine L_cov90 (M0 := M) hr q 2001 1 M2 (by omega) (by omega) p2 (fun j hj => ?_) (fun j _ hj => z2 j hj)
  have : j = 0 := by omega
  subst this
  rw [z2 0 (by omega)]
  unfold cvI
  exact (isum_congr (fun a ha => cv_zero (hr a (by rw [List.mem_range'_1] at ha; omega)).1 (hr a (by rw [List.mem_range'_1] at ha; omega)).2.1)).symm
theorem cvI_N {T : Tr} {W : Int} (I : TI M T N W) (k : Nat) : cvI M N k = nI (cvN M (live M T) k) := by
  unfold cvI cvN
  rw [isum_live I (fun a ha => if_neg (fun c => ha c.1)), isum_count]
theorem cvN_le {l : List Nat} {k : Nat} : cvN M l k ≤ l.length := List.countP_le_length
end COVER
