/-! ===== deepestPoint ===== -/
def sN (M : MT) (l : List Nat) (p : Int) : Nat := l.countP fun a => decide ((M 1 a).toInt ≤ p ∧ p ≤ (M 2 a).toInt)
theorem cvN_sN {M : MT} {T : Tr} {k : Nat} : cvN M (live M T) k = sN M (live M T) ((k : Int) - 1000) := by
  unfold cvN sN
  refine List.countP_congr (fun a ha => ?_)
  rw [decide_eq_true_iff, decide_eq_true_iff]
  exact ⟨fun c => by have := c.2; omega, fun c => ⟨(lvT ha).2, by omega, by omega⟩⟩
theorem ex_max {P : Nat → Prop} {f : Nat → Int} : ∀ {l : List Nat}, (∃ a ∈ l, P a) → ∃ a ∈ l, P a ∧ ∀ b ∈ l, P b → f b ≤ f a := by
  intro l
  induction l with
  | nil => rintro ⟨a, h, -⟩; cases h
  | cons x l ih =>
    intro h
    by_cases c : ∃ a ∈ l, P a
    · obtain ⟨a, h1, h2, h3⟩ := ih c
      by_cases cx : P x ∧ f a < f x
      · refine ⟨x, List.mem_cons_self, cx.1, fun b hb hP => ?_⟩
        rcases List.mem_cons.mp hb with rfl | hb
        · exact Int.le_refl _
        · have := h3 b hb hP; omega
      · refine ⟨a, List.mem_cons_of_mem _ h1, h2, fun b hb hP => ?_⟩
        rcases List.mem_cons.mp hb with rfl | hb
        · have : ¬ f a < f b := fun y => cx ⟨hP, y⟩
          omega
        · exact h3 b hb hP
    · obtain ⟨a, h1, h2⟩ := h
      rcases List.mem_cons.mp h1 with rfl | h1
      · refine ⟨a, List.mem_cons_self, h2, fun b hb hP => ?_⟩
        rcases List.mem_cons.mp hb with rfl | hb
        · exact Int.le_refl _
        · exact (c ⟨b, hb, hP⟩).elim
      · exact (c ⟨a, h1, h2⟩).elim
def DeepR (M : MT) (T : Tr) (f : Nat) : Prop := f ≤ 2000 ∧ (∀ j, j ≤ 2000 → cvN M (live M T) j ≤ cvN M (live M T) f) ∧ (∀ j, j < f → cvN M (live M T) j < cvN M (live M T) f)
def DeepC (M : MT) (T : Tr) (D : Int32) : Prop := (∃ j ∈ live M T, D = M 1 j) ∧ 0 < sN M (live M T) D.toInt ∧ (∀ j ∈ live M T, sN M (live M T) (M 1 j).toInt ≤ sN M (live M T) D.toInt) ∧ (∀ j ∈ live M T, (M 1 j).toInt < D.toInt → sN M (live M T) (M 1 j).toInt < sN M (live M T) D.toInt)
theorem deep_eq {M : MT} {T : Tr} {N : Nat} {W : Int} (I : TI M T N W) {f : Nat} {D : Int32} (hR : DeepR M T f) (hC : DeepC M T D) : D = nI f - 1000 := by
  obtain ⟨f1, f2, f3⟩ := hR
  obtain ⟨⟨j, hj, eD⟩, c1, c2, c3⟩ := hC
  have hrg : ∀ a ∈ live M T, -1000 ≤ (M 1 a).toInt ∧ (M 1 a).toInt ≤ (M 2 a).toInt ∧ (M 2 a).toInt ≤ 1000 := fun a ha => I.2.2.2.2.2.2.1 a ((I.mem_live a).mp ha).1
  have hD : -1000 ≤ D.toInt ∧ D.toInt ≤ 1000 := by have := hrg j hj; rw [eD]; omega
  have at_ : ∀ v : Int, -1000 ≤ v → v ≤ 1000 → ∃ k : Nat, k ≤ 2000 ∧ (k : Int) = v + 1000 ∧ cvN M (live M T) k = sN M (live M T) v := fun v h1 h2 => ⟨(v + 1000).toNat, by omega, by omega, by rw [cvN_sN]; congr 1; omega⟩
  obtain ⟨kD, k1, k2, k3⟩ := at_ D.toInt hD.1 hD.2
  have g1 := f2 kD k1
  rw [k3] at g1
  have hpos : 0 < cvN M (live M T) f := by omega
  obtain ⟨a0, ha0, hc0⟩ := covd_iff.mp (cvN_pos.mp hpos)
  obtain ⟨a, ha, hca, hmax⟩ := ex_max (P := fun a => (M 1 a).toInt ≤ (f : Int) - 1000 ∧ (f : Int) - 1000 ≤ (M 2 a).toInt) (f := fun a => (M 1 a).toInt) ⟨a0, ha0, hc0⟩
  have hle : cvN M (live M T) f ≤ sN M (live M T) (M 1 a).toInt := by
    rw [cvN_sN]
    refine List.countP_mono_left (fun b hb hc => ?_)
    rw [decide_eq_true_iff] at hc ⊢
    have := hmax b hb hc
    omega
  have hra := hrg a ha
  have hca2 := c2 a ha
  obtain ⟨ka, a1, a2, a3⟩ := at_ (M 1 a).toInt (by omega) (by omega)
  have hfa : (f : Int) - 1000 = (M 1 a).toInt := by
    by_cases c : ka < f
    · have := f3 ka c; omega
    · omega
  have hDf : D.toInt = (f : Int) - 1000 := by
    by_cases c : D.toInt < (f : Int) - 1000
    · have := f3 kD (by omega); omega
    · by_cases c' : (M 1 a).toInt < D.toInt
      · have := c3 a ha c'; omega
      · omega
  rw [i_eq, i_sub (by rw [nI_toInt (by omega)]; show _ ≤ _ - (1000 : Int); omega) (by rw [nI_toInt (by omega)]; show _ - (1000 : Int) < _; omega), nI_toInt (by omega), hDf]; rfl
section DEEPR
variable {z : Nat × Nat} {d : Nat} {M M0 : MT} {Q : Option AV → MT → Prop} {N : Nat} {T : Tr} {W : Int}
theorem L_deep26 (hc : ∀ k, k < 2002 → M 12 k = nI (cvN M0 (live M0 T) k)) (hlen : (live M0 T).length ≤ 100) (q : ∀ f, DeepR M0 T f → Q (some (vi (nI f - 1000))) M) : ∀ (n k f : Nat), k + n = 2001 → f < k → (∀ j, j < k → cvN M0 (live M0 T) j ≤ cvN M0 (live M0 T) f) → (∀ j, j < f → cvN M0 (live M0 T) j < cvN M0 (live M0 T) f) → WK z d j_Mo_deepestPoint 26 [some (vr (some 0)), some (vi (nI f)), some (vi (nI k))] [] M Q := by
  have hb : ∀ k, cvN M0 (live M0 T) k ≤ 100 := fun k => Nat.le_trans cvN_le hlen
  intro n
  induction n with
  | zero =>
    intro k f hk hf h1 h2
    have : k = 2001 := by omega
    subst this
    refine M_deepestPoint_26 ?_
    rw [if_neg (by decide)]
    exact q f ⟨by omega, fun j hj => h1 j (by omega), h2⟩
  | succ n ih =>
    intro k f hk hf h1 h2
    refine M_deepestPoint_26 ?_
    rw [show (2001 : Int32) = nI 2001 from rfl, if_pos (nI_lt (by omega) (by omega)), nI_clamp (by omega), nI_clamp (by omega), hc k (by omega), hc f (by omega), nI_1]
    refine ⟨ix_nI (by omega) (by decide), ix_nI (by omega) (by decide), ?_⟩
    by_cases c : cvN M0 (live M0 T) f < cvN M0 (live M0 T) k
    · rw [if_pos (nI_lt c (by have := hb k; omega))]
      refine ih (k + 1) k (by omega) (by omega) (fun j hj => ?_) (fun j hj => ?_)
      · by_cases e : j = k
        · rw [e]; exact Nat.le_refl _
        · have := h1 j (by omega); omega
      · have := h1 j hj; omega
    · rw [if_neg (nI_nlt (by omega) (by have := hb f; omega))]
      refine ih (k + 1) f (by omega) (by omega) (fun j hj => ?_) h2
      by_cases e : j = k
      · rw [e]; omega
      · exact h1 j (by omega)
theorem S_deepestPoint (I : TI M T N W) (hd : 2 < d) (q1 : live M T = [] → Q (some (vi 0)) (thn M 1)) (q2 : live M T ≠ [] → ∀ f M', DeepR M T f → PCov (thn M 0) M' → Q (some (vi (nI f - 1000))) M') : WQ z d j_Mo_deepestPoint [vr (some 0)] M Q := by
  have I0 : TI (thn M 0) T N W := TI_thn I
  have hlen : (live M T).length ≤ 100 := by have := I.len; have := I.2.2.2.2.2.2.2.2.2.1; omega
  refine M_deepestPoint_0 ⟨by omega, M_live_0 ?_⟩
  have hs : up2 M 0 0 (0 : Int32) 0 11 - up2 M 0 0 (0 : Int32) 0 12 = nI (live M T).length := by have := I0.size; rw [live_thn] at this; exact this
  rw [hs]
  show (if nI (live M T).length = 0 then _ else _)
  by_cases c : live M T = []
  · rw [c, if_pos (show nI ([] : List Nat).length = 0 from rfl)]
    exact S_fails' (by omega) (q1 c)
  · rw [if_neg (fun h => c (List.length_eq_zero_iff.mp (by rw [← nI_0, i_eq, nI_toInt (by omega), nI_toInt (by omega)] at h; omega)))]
    refine ⟨by omega, S_layCover (N := N) I0.1 I0.2.1 I0.2.2.2.2.2.2.1 (fun M' hp hc => ?_)⟩
    rw [← nI_0, show (1 : Int32) = nI 1 from rfl]
    refine L_deep26 (M0 := M) (T := T) (fun k hk => ?_) hlen (fun f hf => q2 c f M' hf hp) 2000 1 0 (by omega) (by omega) (fun j hj => by rw [show j = 0 by omega]; exact Nat.le_refl _) (fun j hj => by omega)
    have e : cvN (thn M 0) (live M T) k = cvN M (live M T) k := by
      unfold cvN
      refine List.countP_congr (fun a _ => ?_)
      unfold cvB
      rw [thn_ne (by decide), thn_ne (by decide), thn_ne (by decide)]
    rw [hc k hk, cvI_N I0, live_thn, e]
end DEEPR
section DEEPC
variable {g : AHp} {c t b : Nat} {na : Nat → Nat} {K : MT} {T : Tr} {N : Nat} {W : Int} {lim : Nat × Nat} {d : Nat} {R : RT} {X : XT}
theorem C_deep12 (O : RO g c t b na K T N W) (hd : 2 < d) (q1 : live K T = [] → thr lim X 3 g) (q2 : ∀ D, DeepC K T D → R (some (vi D)) g) : ∀ (S P : List Nat) (D : Int32) (l4 : Option AV) (mo : Nat), live K T = P ++ S → (mo = 0 → P = []) → (0 < mo → (∃ j ∈ P, D = K 1 j) ∧ sN K (live K T) D.toInt = mo ∧ (∀ j ∈ P, sN K (live K T) (K 1 j).toInt ≤ mo) ∧ (∀ j ∈ P, (K 1 j).toInt < D.toInt → sN K (live K T) (K 1 j).toInt < mo)) → mo ≤ 100 →
    WP lim d j_It_deepestPoint 12 [some (vr (some c)), some (vi (nI mo)), some (vi D), some (vr (oa na (hdI S))), l4] [] g R X := by
  have hlen : (live K T).length ≤ 100 := by have := O.2.2.1.len; have := O.2.2.1.2.2.2.2.2.2.2.2.2.1; omega
  intro S
  induction S with
  | nil =>
    intro P D l4 mo h h0 h1 hm
    rw [List.append_nil] at h
    refine B_It_deepestPoint_12 ?_
    rw [show hdI [] = (-1 : Int32) from rfl, oa_n, ifN_n]
    by_cases c0 : mo = 0
    · rw [c0, if_pos nI_0]; exact ⟨rfl, q1 (h.trans (h0 c0))⟩
    · rw [if_neg (fun e => c0 (by rw [← nI_0, i_eq, nI_toInt (by omega), nI_toInt (by omega)] at e; omega))]
      obtain ⟨a1, a2, a3, a4⟩ := h1 (by omega)
      refine ⟨rfl, q2 D ⟨h ▸ a1, by omega, fun j hj => ?_, fun j hj hl => ?_⟩⟩
      · rw [a2]; exact a3 j (h ▸ hj)
      · rw [a2]; exact a4 j (h ▸ hj) hl
  | cons i S ih =>
    intro P D l4 mo h h0 h1 hm
    have hi := O.at h
    have hb := O.2.2.1.2.2.2.2.2.2.1 i (O.2.2.1.lt hi).1
    have hsn : 0 < sN K (live K T) (K 1 i).toInt := by
      unfold sN; rw [List.countP_pos_iff]
      exact ⟨i, by rw [h]; exact List.mem_append_right _ List.mem_cons_self, decide_eq_true ⟨Int.le_refl _, hb.2.1⟩⟩
    have hsl : sN K (live K T) (K 1 i).toInt ≤ 100 := Nat.le_trans List.countP_le_length hlen
    refine B_It_deepestPoint_12 ?_
    rw [show hdI (i :: S) = nI i from rfl, oa_s (O.2.1.lt hi), ifN_s, onR_s, O.2.1.lo hi]
    refine ⟨O.2.1.kn hi, all1.mpr O.1.1, by omega, C_stabCount O (by omega) (onI_v ?_)⟩
    rw [isum_count, show (live K T).countP (fun a => decide ((K 1 a).toInt ≤ (K 1 i).toInt ∧ (K 1 i).toInt ≤ (K 2 a).toInt)) = sN K (live K T) (K 1 i).toInt from rfl, onR_s, O.2.1.lo hi, onR_s, onR_s]
    have hlt : ∀ j ∈ P, (K 1 j).toInt ≤ (K 1 i).toInt := fun j hj => by
      have := O.2.2.1.live_sorted
      rw [h, List.pairwise_append] at this
      exact less_lo (this.2.2 j hj i List.mem_cons_self)
    by_cases c1 : mo < sN K (live K T) (K 1 i).toInt
    · rw [if_pos (nI_lt c1 (by omega))]
      refine ⟨O.2.1.kn hi, O.next h (by omega) (onO_v (ih (P ++ [i]) (K 1 i) _ _ (by rw [h]; simp) (fun e => by omega) (fun _ => ⟨⟨i, by simp, rfl⟩, rfl, fun j hj => ?_, fun j hj hl => ?_⟩) hsl))⟩
      · rcases List.mem_append.mp hj with hj | hj
        · by_cases c0 : mo = 0
          · rw [h0 c0] at hj; cases hj
          · have := (h1 (by omega)).2.2.1 j hj; omega
        · rw [List.mem_singleton.mp hj]; exact Nat.le_refl _
      · rcases List.mem_append.mp hj with hj | hj
        · by_cases c0 : mo = 0
          · rw [h0 c0] at hj; cases hj
          · have := (h1 (by omega)).2.2.1 j hj; omega
        · rw [List.mem_singleton.mp hj] at hl; omega
    · rw [if_neg (nI_nlt (by omega) (by omega))]
      have hm0 : 0 < mo := by omega
      obtain ⟨⟨j0, a1, e0⟩, a2, a3, a4⟩ := h1 hm0
      have hD : D.toInt ≤ (K 1 i).toInt := by rw [e0]; exact hlt j0 a1
      refine O.next h (by omega) (onO_v (ih (P ++ [i]) D _ mo (by rw [h]; simp) (fun e => by omega) (fun _ => ⟨⟨j0, List.mem_append_left _ a1, e0⟩, a2, fun j hj => ?_, fun j hj hl => ?_⟩) hm))
      · rcases List.mem_append.mp hj with hj | hj
        · exact a3 j hj
        · rw [List.mem_singleton.mp hj]; omega
      · rcases List.mem_append.mp hj with hj | hj
        · exact a4 j hj hl
        · rw [List.mem_singleton.mp hj] at hl; omega
theorem C_deepestPoint (O : RO g c t b na K T N W) (hd : 2 < d) (q1 : live K T = [] → thr lim X 3 g) (q2 : ∀ D, DeepC K T D → R (some (vi D)) g) : WM lim d j_It_deepestPoint [vr (some c)] g R X := by
  refine B_It_deepestPoint_0 (O.first (by omega) (onO_v ?_))
  have := C_deep12 (R := R) (X := X) (lim := lim) O hd q1 q2 (live K T) [] 0 none 0 rfl (fun _ => rfl) (fun h => by omega) (by omega)
  rw [nI_0] at this; exact this
end DEEPC
