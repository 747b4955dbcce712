/-! ===== the reference's rebuilds ===== -/
def Mk1 (M0 M : MT) (k : Nat) : Prop := (∀ r i, r ≠ 4 → M r i = M0 r i) ∧ (∀ i, M 4 i = if i < k ∧ M0 4 i = 1 then 2 else M0 4 i)
def finR (M : MT) : MT := up2 (up2 (up2 (up2 M 0 11 (M 0 17)) 0 12 0) 0 14 (M 0 14 + 1)) 0 15 (M 0 15 + M 0 17)
theorem pw_nodup {M : MT} {l : List Nat} (h : l.Pairwise (less M)) : l.Nodup := List.Pairwise.imp (S := fun a b => a ≠ b) (fun {a b} h c => less_irrefl (M := M) (a := a) (by rw [← c] at h; exact h)) h
section REBS
variable {z : Nat × Nat} {d : Nat} {Q : Option AV → MT → Prop} {N : Nat} {M0 : MT} {l2 : Option AV}
theorem L_reb2 (hN : M0 0 10 = nI N) (hN5 : N ≤ 500) (hd : 0 < d) (q : ∀ M1, Mk1 M0 M1 N → WQ z (d - 1) j_Mo_layRow [vr (some 0)] M1 (fun _ M2 => WK z d j_Mo_rebuilds 39 [some (vr (some 0)), some (vi 0), l2] [] M2 Q)) : ∀ (n k : Nat) (M : MT), k + n = N → Mk1 M0 M k → WK z d j_Mo_rebuilds 2 [some (vr (some 0)), some (vi (nI k)), l2] [] M Q := by
  intro n
  induction n with
  | zero =>
    intro k M hk hm
    refine M_rebuilds_2 ?_
    rw [hm.1 0 10 (by decide), hN, if_neg (nI_nlt (by omega) (by omega))]
    have : k = N := by omega
    subst this
    exact ⟨hd, q M hm⟩
  | succ n ih =>
    intro k M hk hm
    have hk5 : k < 500 := by omega
    refine M_rebuilds_2 ?_
    rw [hm.1 0 10 (by decide), hN, if_pos (nI_lt (by omega) (by omega)), nI_clamp (by omega), nI_1]
    have hmk : M 4 k = M0 4 k := by rw [hm.2 k, if_neg (by omega)]
    refine ⟨ix_nI hk5 (by decide), ?_⟩
    split
    · rename_i c
      refine ⟨ix_nI hk5 (by decide), ih (k + 1) _ (by omega) ⟨fun r i hr => ?_, fun i => ?_⟩⟩
      · rw [up2_ne (by omega)]; exact hm.1 r i hr
      · by_cases e : i = k
        · subst e; rw [up2_at, if_pos ⟨by omega, hmk ▸ c⟩]
        · rw [up2_ne (by omega), hm.2 i]
          by_cases e2 : i < k
          · by_cases e3 : M0 4 i = 1
            · rw [if_pos ⟨e2, e3⟩, if_pos ⟨by omega, e3⟩]
            · rw [if_neg (fun x => e3 x.2), if_neg (fun x => e3 x.2)]
          · rw [if_neg (fun x => e2 x.1), if_neg (by omega)]
    · rename_i c
      refine ih (k + 1) _ (by omega) ⟨hm.1, fun i => ?_⟩
      rw [hm.2 i]
      by_cases e3 : M0 4 i = 1
      · by_cases e2 : i < k
        · rw [if_pos ⟨e2, e3⟩, if_pos ⟨by omega, e3⟩]
        · have : i ≠ k := fun x => c (by rw [hmk, ← x]; exact e3)
          rw [if_neg (fun x => e2 x.1), if_neg (by omega)]
      · rw [if_neg (fun x => e3 x.2), if_neg (fun x => e3 x.2)]
theorem L_reb39 (hd : 0 < d) (q : ∀ M3, (∀ i, i < 500 → M3 10 i = 0) → (∀ r i, r ≠ 10 → M3 r i = M0 r i) → WQ z (d - 1) j_Mo_built [vr (some 0), vi 0, vi (M3 0 17), vi (-1), vi 0] M3 (fun v2 M1 => onI v2 fun x4 => WK z d j_Mo_rebuilds 76 [some (vr (some 0)), some (vi 0), l2] [] (up2 M1 0 9 x4) Q)) : ∀ (n k : Nat) (M : MT), k + n = 500 → (∀ i, i < k → M 10 i = 0) → (∀ r i, r ≠ 10 → M r i = M0 r i) → WK z d j_Mo_rebuilds 39 [some (vr (some 0)), some (vi (nI k)), l2] [] M Q := by
  intro n
  induction n with
  | zero =>
    intro k M hk h1 h2
    have : k = 500 := by omega
    subst this
    refine M_rebuilds_39 ?_
    rw [if_neg (by decide)]
    exact ⟨hd, q M h1 h2⟩
  | succ n ih =>
    intro k M hk h1 h2
    refine M_rebuilds_39 ?_
    rw [show (500 : Int32) = nI 500 from rfl, if_pos (nI_lt (by omega) (by omega)), nI_clamp (by omega), nI_1]
    refine ⟨ix_nI (by omega) (by decide), ih (k + 1) _ (by omega) (fun i hi => ?_) (fun r i hr => ?_)⟩
    · by_cases e : i = k
      · subst e; exact up2_at
      · rw [up2_ne (by omega)]; exact h1 i (by omega)
    · rw [up2_ne (by omega)]; exact h2 r i hr
theorem finR_eq {M : MT} (q : Q none (finR M)) : ∀ M1 : MT, M1 = up2 (up2 (up2 M 0 11 (M 0 17)) 0 12 (0 : Int32)) 0 14 ((up2 (up2 M 0 11 (M 0 17)) 0 12 (0 : Int32)) 0 14 + (1 : Int32)) → Q none (up2 M1 0 15 (M1 0 15 + M1 0 11)) := by
  intro M1 e
  have e1 : (up2 (up2 M 0 11 (M 0 17)) 0 12 (0 : Int32)) 0 14 = M 0 14 := by rw [up2_ne (by omega), up2_ne (by omega)]
  have e2 : M1 0 15 = M 0 15 := by rw [e, up2_ne (by omega), up2_ne (by omega), up2_ne (by omega)]
  have e3 : M1 0 11 = M 0 17 := by rw [e, up2_ne (by omega), up2_ne (by omega), up2_at]
  rw [e2, e3, e, e1]; exact q
theorem L_reb107 {ll : List Nat} {e : Nat} {M5 : MT} (hb : ∀ x ∈ ll, x < 500) (hl : ll.length ≤ 500) (hr : RowIs M5 ll) (hm : M5 0 17 = nI ll.length) (hn : ll.Nodup) (q : ∀ M', (∀ x ∈ ll, M' 8 x = if M5 11 x = nI e then 1 else 0) → (∀ r i, (r ≠ 8 ∨ i ∉ ll) → M' r i = M5 r i) → Q none (finR M')) : ∀ (s pre : List Nat) (M : MT), ll = pre ++ s → (∀ x ∈ pre, M 8 x = if M5 11 x = nI e then 1 else 0) → (∀ r i, (r ≠ 8 ∨ i ∉ ll) → M r i = M5 r i) → WK z d j_Mo_rebuilds 107 [some (vr (some 0)), some (vi (nI e)), some (vi (nI pre.length))] [] M Q := by
  intro s
  induction s with
  | nil =>
    intro pre M hp h1 h2
    refine M_rebuilds_107 ?_
    rw [List.append_nil] at hp
    subst hp
    have hlt : ¬ nI ll.length < M 0 17 := by rw [h2 0 17 (Or.inl (by decide)), hm]; exact nI_nlt (Nat.le_refl _) (by omega)
    rw [if_neg hlt]
    exact finR_eq (q M h1 h2)
  | cons x s ih =>
    intro pre M hp h1 h2
    have hx : x ∈ ll := by rw [hp]; simp
    have hx5 := hb x hx
    have hlen : pre.length < ll.length := by rw [hp, List.length_append, List.length_cons]; omega
    have h9 : M 9 pre.length = nI x := by rw [h2 9 _ (Or.inl (by decide))]; exact hr _ _ (by rw [hp]; simp)
    have hpx : x ∉ pre := by
      rw [hp, List.nodup_append] at hn
      exact fun c => hn.2.2 x c x List.mem_cons_self rfl
    refine M_rebuilds_107 ?_
    rw [h2 0 17 (Or.inl (by decide)), hm, if_pos (nI_lt hlen (by omega)), nI_clamp (by omega), h9, nI_clamp (by omega), h2 11 x (Or.inl (by decide)), nI_1]
    have xk : ix (nI pre.length) 500 := ix_nI (by omega) (by decide)
    have xx : ix (nI x) 500 := ix_nI hx5 (by decide)
    have hl1 : (pre ++ [x]).length = pre.length + 1 := by simp
    refine ⟨xk, xk, xx, ?_⟩
    split
    · rename_i c
      refine ⟨xx, ?_⟩
      rw [← hl1]
      refine ih (pre ++ [x]) _ (by rw [hp]; simp) (fun y hy => ?_) (fun r i hi => ?_)
      · rcases List.mem_append.mp hy with hy | hy
        · have : y ≠ x := fun c => hpx (c ▸ hy)
          rw [up2_ne (by omega)]; exact h1 y hy
        · rw [List.mem_singleton.mp hy, up2_at, if_pos c]
      · have hne : ¬ (r = 8 ∧ i = x) := fun c => hi.elim (fun y => y c.1) (fun y => y (by rw [c.2]; exact hx))
        rw [up2_ne hne]; exact h2 r i hi
    · rename_i c
      refine ⟨xx, ?_⟩
      rw [← hl1]
      refine ih (pre ++ [x]) _ (by rw [hp]; simp) (fun y hy => ?_) (fun r i hi => ?_)
      · rcases List.mem_append.mp hy with hy | hy
        · have : y ≠ x := fun c => hpx (c ▸ hy)
          rw [up2_ne (by omega)]; exact h1 y hy
        · rw [List.mem_singleton.mp hy, up2_at, if_neg c]
      · have hne : ¬ (r = 8 ∧ i = x) := fun c => hi.elim (fun y => y c.1) (fun y => y (by rw [c.2]; exact hx))
        rw [up2_ne hne]; exact h2 r i hi
theorem shl_1 : ∀ j, j < 8 → (1 : Int32) <<< (nI j &&& 31) = nI (2 ^ j) := by decide
theorem L_reb76 {c : Nat} {M : MT} (hc : c < 101) (h10 : ∀ i, i < 500 → M 10 i = nI (lvN 7 c i)) (q1 : ¬ lP c → WK z d j_Mo_rebuilds 107 [some (vr (some 0)), some (vi (nI (lD c))), some (vi 0)] [] M Q) (q2 : lP c → Q none (finR M)) : ∀ (n j : Nat), j + n = lD c → WK z d j_Mo_rebuilds 76 [some (vr (some 0)), some (vi (nI j)), l2] [] M Q := by
  obtain ⟨f1, f2, f3, f4, f5, f6⟩ := lv_facts c hc
  intro n
  induction n with
  | zero =>
    intro j hj
    have hj : j = lD c := by omega
    subst hj
    refine M_rebuilds_76 ?_
    rw [nI_1, nI_clamp (by omega), nI_clamp (by omega), h10 _ (by omega), h10 _ (by omega), f2, nI_0, if_neg (by decide), shl_1 _ (by omega)]
    refine ⟨ix_nI (by omega) (by decide), ix_nI (by omega) (by decide), ?_⟩
    have g6 := f6 (lD c) (by omega)
    have hp2 : 2 ^ lD c ≤ 2 ^ 7 := Nat.pow_le_pow_right (by decide) (by omega)
    by_cases c2 : lvN 7 c (lD c) < 2 ^ lD c
    · rw [if_pos (nI_lt c2 (by omega))]; exact q1 (f3.mp c2)
    · rw [if_neg (nI_nlt (by omega) (by omega))]
      exact finR_eq (q2 (Classical.byContradiction fun x => c2 (f3.mpr x)))
  | succ n ih =>
    intro j hj
    refine M_rebuilds_76 ?_
    rw [nI_1, nI_clamp (by omega), h10 _ (by omega)]
    refine ⟨ix_nI (by omega) (by decide), ?_⟩
    have g6 := f6 (j + 1) (by omega)
    have hpos : (0 : Int32) < nI (lvN 7 c (j + 1)) := by rw [← nI_0]; exact nI_lt (f1 j (by omega)) (by omega)
    rw [if_pos hpos]
    exact ih (j + 1) (by omega)
/-- what a rebuild leaves -/
def RebP (M M' : MT) (N : Nat) (ll : List Nat) : Prop :=
  (∀ i, M' 4 i = if i < N ∧ M 4 i = 1 then 2 else M 4 i) ∧ EncZ M' (bt 7 ll) [] ∧ ColT M' (lE ll.length) 0 (bt 7 ll) ∧ M' 0 11 = nI ll.length ∧ M' 0 12 = 0 ∧ M' 0 14 = M 0 14 + 1 ∧ M' 0 15 = M 0 15 + nI ll.length ∧
  (∀ r i, r ≠ 4 → r ≠ 5 → r ≠ 6 → r ≠ 7 → r ≠ 8 → r ≠ 9 → r ≠ 10 → r ≠ 11 → ¬ (r = 0 ∧ (i = 9 ∨ i = 11 ∨ i = 12 ∨ i = 14 ∨ i = 15 ∨ i = 17)) → M' r i = M r i) ∧ ((∀ i, b01 (M 8 i)) → ∀ i, b01 (M' 8 i))
theorem Enc_fin {M : MT} {t : Tr} {up : Int32} : Enc (finR M) up t ↔ Enc M up t := by
  have h : ∀ n, finR M 5 n = M 5 n ∧ finR M 6 n = M 6 n ∧ finR M 7 n = M 7 n := fun n => by
    unfold finR; exact ⟨by rw [up2_ne (by omega), up2_ne (by omega), up2_ne (by omega), up2_ne (by omega)], by rw [up2_ne (by omega), up2_ne (by omega), up2_ne (by omega), up2_ne (by omega)], by rw [up2_ne (by omega), up2_ne (by omega), up2_ne (by omega), up2_ne (by omega)]⟩
  exact ⟨Enc_congr (fun n _ => h n), Enc_congr (fun n _ => ⟨(h n).1.symm, (h n).2.1.symm, (h n).2.2.symm⟩)⟩
theorem ColT_congr {M M' : MT} {E : Nat} : ∀ {t : Tr} {dep : Nat}, (∀ x ∈ ino t, M 8 x = M' 8 x) → ColT M E dep t → ColT M' E dep t := by
  intro t
  induction t with
  | leaf _ => intro _ _ _; trivial
  | branch n l r hl hr =>
    intro dep h ⟨e1, e2, e3⟩
    exact ⟨(h n (List.mem_append_right _ List.mem_cons_self)) ▸ e1, hl (fun x hx => h x (List.mem_append_left _ hx)) e2, hr (fun x hx => h x (List.mem_append_right _ (List.mem_cons_of_mem _ hx))) e3⟩
theorem S_rebuilds {M : MT} (hN : M 0 10 = nI N) (hN5 : N ≤ 500) (hd : 10 < d) (hl : ∀ l, LiveRow M N l → l.length ≤ 100) (q : ∀ M' ll, LiveRow M N ll → RebP M M' N ll → Q none M') : WQ z d j_Mo_rebuilds [vr (some 0)] M Q := by
  refine M_rebuilds_0 ?_
  rw [← nI_0]
  refine L_reb2 (M0 := M) hN hN5 (by omega) (fun M1 h1 => ?_) N 0 M (by omega) ⟨fun _ _ _ => rfl, fun i => by rw [if_neg (by omega)]⟩
  refine S_layRow (N := N) (by rw [h1.1 0 10 (by decide)]; exact hN) hN5 (by omega) (fun ll M2 hP hR h17 hL1 => ?_)
  have hLL : LiveRow M N ll := by
    refine ⟨hL1.1.imp (fun {a b} h => (less_cong (M := M) (M' := M1) (fun i => ⟨h1.1 1 i (by decide), h1.1 2 i (by decide)⟩)).mp h), fun x => ?_, hL1.2.2⟩
    rw [hL1.2.1 x, h1.2 x]
    constructor
    · rintro ⟨a, b⟩
      refine ⟨a, ?_⟩
      split at b
      · cases b
      · exact b
    · rintro ⟨a, b⟩
      exact ⟨a, by rw [if_neg (fun c => by rw [b] at c; exact absurd c.2 (by decide))]; exact b⟩
  have hlen := hl ll hLL
  have hb : ∀ x ∈ ll, x < 500 := fun x hx => by have := ((hLL.2.1 x).mp hx).1; omega
  have hnd : ll.Nodup := pw_nodup hLL.1
  rw [← nI_0]
  refine L_reb39 (M0 := M2) (by omega) (fun M3 h3 h3o => ?_) 500 0 M2 (by omega) (fun i hi => by omega) (fun _ _ _ => rfl)
  have e17 : M3 0 17 = nI (0 + ll.length) := by rw [h3o 0 17 (by decide), h17, Nat.zero_add]
  rw [e17, ← nI_0]
  refine S_built 7 ll 0 0 (d - 1) (-1) M3 _ (by omega) (fun j b hj => ?_) hb hnd (by omega) (by omega) (by omega) (fun M4 B4 => ?_)
  · rw [Nat.zero_add, h3o 9 j (by decide)]; exact hR j b hj
  show WK z d j_Mo_rebuilds 76 _ _ _ _
  obtain ⟨E4, Z4, D4, C4, F4⟩ := B4
  have i4 : ino (bt 7 ll) = ll := ino_bt 7 ll (by omega)
  have o5 : ∀ r i, ¬ (r = 0 ∧ i = 9) → up2 M4 0 9 (rootOf (bt 7 ll)) r i = M4 r i := fun r i h => up2_ne h
  have h10 : ∀ i, i < 500 → up2 M4 0 9 (rootOf (bt 7 ll)) 10 i = nI (lvN 7 ll.length i) := by
    intro i hi
    rw [o5 10 i (by omega), C4 i, h3 i hi, if_pos (Nat.zero_le _), Nat.sub_zero, cnt_bt, i32_comm, i32_zero]
  have hE4 : EncZ (up2 M4 0 9 (rootOf (bt 7 ll))) (bt 7 ll) [] := ⟨Enc_congr (fun x _ => ⟨(o5 5 x (by omega)).symm, (o5 6 x (by omega)).symm, (o5 7 x (by omega)).symm⟩) E4, up2_at⟩
  have hoff : ∀ r i, r ≠ 4 → r ≠ 5 → r ≠ 6 → r ≠ 7 → r ≠ 8 → r ≠ 9 → r ≠ 10 → r ≠ 11 → ¬ (r = 0 ∧ (i = 9 ∨ i = 17)) → up2 M4 0 9 (rootOf (bt 7 ll)) r i = M r i := by
    intro r i a4 a5 a6 a7 a8 a9 a10 a11 a0
    rw [o5 r i (by omega), F4 r i a10 (Or.inl ⟨a5, a6, a7, a8, a11⟩), h3o r i a10, hP r i a9 (by omega), h1.1 r i a4]
  have h4 : ∀ i, up2 M4 0 9 (rootOf (bt 7 ll)) 4 i = if i < N ∧ M 4 i = 1 then 2 else M 4 i := by
    intro i; rw [o5 4 i (by omega), F4 4 i (by decide) (Or.inl (by decide)), h3o 4 i (by decide), hP 4 i (by decide) (by omega), h1.2 i]
  have h17' : up2 M4 0 9 (rootOf (bt 7 ll)) 0 17 = nI ll.length := by rw [o5 0 17 (by omega), F4 0 17 (by decide) (Or.inl (by decide)), e17, Nat.zero_add]
  have hb8 : (∀ i, b01 (M 8 i)) → ∀ i, b01 (up2 M4 0 9 (rootOf (bt 7 ll)) 8 i) := by
    intro h i
    rw [o5 8 i (by omega)]
    by_cases c : i ∈ ll
    · rw [Z4 i c]; exact b01_0
    · rw [F4 8 i (by decide) (Or.inr c), h3o 8 i (by decide), hP 8 i (by decide) (by omega), h1.1 8 i (by decide)]; exact h i
  have hD : DepT (up2 M4 0 9 (rootOf (bt 7 ll))) 0 (bt 7 ll) := DepT_congr (fun x _ => (o5 11 x (by omega)).symm) D4
  have hZ : ∀ x ∈ ll, up2 M4 0 9 (rootOf (bt 7 ll)) 8 x = 0 := fun x hx => by rw [o5 8 x (by omega)]; exact Z4 x hx
  have hrow : RowIs (up2 M4 0 9 (rootOf (bt 7 ll))) ll := fun j b hj => by
    rw [o5 9 j (by omega), F4 9 j (by decide) (Or.inl (by decide)), h3o 9 j (by decide)]; exact hR j b hj
  generalize up2 M4 0 9 (rootOf (bt 7 ll)) = M5 at h10 hE4 hoff h4 h17' hb8 hD hZ hrow ⊢
  have fino : ∀ (X : MT) r i, ¬ (r = 0 ∧ (i = 11 ∨ i = 12 ∨ i = 14 ∨ i = 15)) → finR X r i = X r i := fun X r i h => by
    unfold finR; rw [up2_ne (by omega), up2_ne (by omega), up2_ne (by omega), up2_ne (by omega)]
  have key : ∀ X : MT, (∀ r i, (r ≠ 8 ∨ i ∉ ll) → X r i = M5 r i) → ColT X (lE ll.length) 0 (bt 7 ll) → (∀ i ∈ ll, b01 (X 8 i)) → RebP M (finR X) N ll := by
    intro X hX hC hXb
    refine ⟨fun i => ?_, ⟨Enc_fin.mpr (Enc_congr (fun x _ => ⟨(hX 5 x (Or.inl (by decide))).symm, (hX 6 x (Or.inl (by decide))).symm, (hX 7 x (Or.inl (by decide))).symm⟩) hE4.1), ?_⟩, ColT_congr (fun x _ => (fino X 8 x (by omega)).symm) hC, ?_, ?_, ?_, ?_, ?_, ?_⟩
    · rw [fino X 4 i (by omega), hX 4 i (Or.inl (by decide))]; exact h4 i
    · show finR X 0 9 = _
      rw [fino X 0 9 (by omega), hX 0 9 (Or.inl (by decide))]; exact hE4.2
    · unfold finR; rw [up2_ne (by omega), up2_ne (by omega), up2_ne (by omega), up2_at, hX 0 17 (Or.inl (by decide))]; exact h17'
    · unfold finR; rw [up2_ne (by omega), up2_ne (by omega), up2_at]
    · unfold finR; rw [up2_ne (by omega), up2_at, hX 0 14 (Or.inl (by decide)), hoff 0 14 (by decide) (by decide) (by decide) (by decide) (by decide) (by decide) (by decide) (by decide) (by omega)]
    · unfold finR; rw [up2_at, hX 0 15 (Or.inl (by decide)), hX 0 17 (Or.inl (by decide)), h17', hoff 0 15 (by decide) (by decide) (by decide) (by decide) (by decide) (by decide) (by decide) (by decide) (by omega)]
    · intro r i a4 a5 a6 a7 a8 a9 a10 a11 a0
      rw [fino X r i (by omega), hX r i (Or.inl a8), hoff r i a4 a5 a6 a7 a8 a9 a10 a11 (by omega)]
    · intro h i
      rw [fino X 8 i (by omega)]
      by_cases c : i ∈ ll
      · exact hXb i c
      · rw [hX 8 i (Or.inr c)]; exact hb8 h i
  have lf := lv_facts ll.length (by omega)
  refine L_reb76 (c := ll.length) (by omega) h10 (fun hp => ?_) (fun hp => q _ ll hLL (key M5 (fun _ _ _ => rfl) ?_ (fun i hi => ?_))) (lD ll.length) 0 (by omega)
  · rw [← nI_0]
    refine L_reb107 hb (by omega) hrow h17' hnd (fun M' g1 g2 => q _ ll hLL (key M' g2 ?_ (fun i hi => ?_))) ll [] M5 rfl (fun x hx => by cases hx) (fun _ _ _ => rfl)
    · have hE : lE ll.length = lD ll.length := by unfold lD; rw [if_neg (show ¬ (ll.length + 1 = 2 ^ lE ll.length ∧ 0 < lE ll.length) from hp)]
      rw [hE]
      refine ColT_dep (by omega) (by have := tht_bt 7 ll; omega) (DepT_congr (fun x _ => (g2 11 x (Or.inl (by decide))).symm) hD) (fun x hx => ?_)
      rw [i4] at hx
      rw [g1 x hx, g2 11 x (Or.inl (by decide))]
    · rw [g1 i hi]; split
      · exact b01_1
      · exact b01_0
  · refine ColT_black (fun x hx => hZ x (by rw [i4] at hx; exact hx)) (fun j hj => ?_)
    rw [cnt_bt, show j = lE ll.length by omega]; exact lf.2.2.2.1 hp
  · rw [hZ i hi]; exact b01_0
end REBS
