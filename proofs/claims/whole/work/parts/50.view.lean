/-! ===== the class's tree as it lies in a heap: node i at na i, its fields as the rows of a memory K ===== -/
def oa (na : Nat → Nat) (x : Int32) : Option Nat := if x = -1 then none else some (na x.toNatClampNeg)
theorem oa_n {na : Nat → Nat} : oa na (-1) = none := by unfold oa; rw [if_pos rfl]
theorem oa_s {na : Nat → Nat} {i : Nat} (h : i < 500) : oa na (nI i) = some (na i) := by unfold oa; rw [if_neg (nI_m1 (by omega)), nI_clamp (by omega)]
/-- rows for a node's ints and pointers; 40 before, 41 after, 42 best -/
def nrI (k : Nat) : Nat := if k = 1 then 1 else if k = 2 then 2 else if k = 3 then 3 else if k = 4 then 4 else if k = 5 then 8 else if k = 11 then 42 else 99
def nrP (k : Nat) : Nat := if k = 6 then 7 else if k = 7 then 5 else if k = 8 then 6 else if k = 9 then 40 else if k = 10 then 41 else 98
/-- places for the tree's own fields; row 43: first, last, live -/
def trR (k : Nat) : Nat := if k = 2 then 43 else if k = 3 then 43 else if k = 6 then 43 else 0
def trF (k : Nat) : Nat := if k = 1 then 9 else if k = 2 then 0 else if k = 3 then 1 else if k = 4 then 10 else if k = 5 then 11 else if k = 6 then 2 else if k = 7 then 13 else if k = 8 then 14 else if k = 9 then 15 else 999
def pd (D : Nat → Prop) (x : Int32) : Prop := x = -1 ∨ ∃ i, D i ∧ x = nI i
def own (t : Nat) (na : Nat → Nat) (D : Nat → Prop) (a : Nat) : Prop := a = t ∨ ∃ i, D i ∧ a = na i
def NF (g : AHp) (na : Nat → Nat) (D : Nat → Prop) (K : MT) (i : Nat) : Prop :=
  i < 500 ∧ na i < hsz g ∧ hk g (na i) = 2 ∧ hI g (na i) 0 = nI i ∧ (∀ k, nrI k ≠ 99 → hI g (na i) k = K (nrI k) i) ∧ (∀ k, nrP k ≠ 98 → hP g (na i) k = oa na (K (nrP k) i) ∧ pd D (K (nrP k) i))
def CV (g0 g : AHp) (t b : Nat) (na : Nat → Nat) (D : Nat → Prop) (K : MT) : Prop :=
  (hk g t = 5 ∧ t < hsz g ∧ hP g t 0 = some b ∧ hk g b = 12 ∧ hLen g b = 500 ∧ b < hsz g) ∧ (∀ i, D i → NF g na D K i) ∧
  (∀ k, 1 ≤ k → k ≤ 3 → hP g t k = oa na (K (trR k) (trF k)) ∧ pd D (K (trR k) (trF k))) ∧ (∀ k, 4 ≤ k → k ≤ 9 → hI g t k = K (trR k) (trF k)) ∧
  (∀ i j, D i → D j → na i = na j → i = j) ∧ Fr g0 g (own t na D)
theorem nrI_v {k : Nat} (h : nrI k ≠ 99) : k = 1 ∧ nrI k = 1 ∨ k = 2 ∧ nrI k = 2 ∨ k = 3 ∧ nrI k = 3 ∨ k = 4 ∧ nrI k = 4 ∨ k = 5 ∧ nrI k = 8 ∨ k = 11 ∧ nrI k = 42 := by
  unfold nrI at h ⊢
  split at h <;> rename_i c
  · simp [c]
  · split at h <;> rename_i c
    · simp [c]
    · split at h <;> rename_i c
      · simp [c]
      · split at h <;> rename_i c
        · simp [c]
        · split at h <;> rename_i c
          · simp [c]
          · split at h <;> rename_i c
            · simp [c]
            · exact (h rfl).elim
theorem nrP_v {k : Nat} (h : nrP k ≠ 98) : k = 6 ∧ nrP k = 7 ∨ k = 7 ∧ nrP k = 5 ∨ k = 8 ∧ nrP k = 6 ∨ k = 9 ∧ nrP k = 40 ∨ k = 10 ∧ nrP k = 41 := by
  unfold nrP at h ⊢
  split at h <;> rename_i c
  · simp [c]
  · split at h <;> rename_i c
    · simp [c]
    · split at h <;> rename_i c
      · simp [c]
      · split at h <;> rename_i c
        · simp [c]
        · split at h <;> rename_i c
          · simp [c]
          · exact (h rfl).elim
theorem trR_v (k : Nat) : trR k = 0 ∨ trR k = 43 := by unfold trR; split <;> (try split) <;> (try split) <;> simp
theorem tr_inj' : ∀ k : Fin 10, ∀ j : Fin 10, (1 ≤ k.val ∧ 1 ≤ j.val ∧ trR k.val = trR j.val ∧ trF k.val = trF j.val) → k.val = j.val := by decide
theorem tr_inj (k : Nat) (hk : k < 10) (j : Nat) (hj : j < 10) (h1 : 1 ≤ k) (h2 : 1 ≤ j) (h3 : trR k = trR j) (h4 : trF k = trF j) : k = j := tr_inj' ⟨k, hk⟩ ⟨j, hj⟩ ⟨h1, h2, h3, h4⟩
theorem up2_offI {α : Type} {f : Nat → Nat → α} {a k b : Nat} {v : α} (hb : b ≠ a) : up2 f a k v b = f b := up2_off f hb
section VIEW
variable {g0 g : AHp} {t b : Nat} {na : Nat → Nat} {D : Nat → Prop} {K : MT} {i : Nat}
theorem CV.nt (V : CV g0 g t b na D K) (h : D i) : na i ≠ t := fun c => by
  have h1 := (V.2.1 i h).2.2.1; rw [c, V.1.1] at h1; cases h1
theorem CV.nb (V : CV g0 g t b na D K) (h : D i) : na i ≠ b := fun c => by
  have h1 := (V.2.1 i h).2.2.1; rw [c, V.1.2.2.2.1] at h1; cases h1
theorem CV.wnI (V : CV g0 g t b na D K) (hi : D i) {k : Nat} (hk : nrI k ≠ 99) (v : Int32) : CV g0 (sI g (na i) k v) t b na D (up2 K (nrI k) i v) := by
  have hv := nrI_v hk
  have hne := V.nt hi
  obtain ⟨v1, v2, v3, v4, v5, v6⟩ := V
  refine ⟨v1, fun j hj => ?_, fun k' h1 h2 => ?_, fun k' h1 h2 => ?_, v5, ?_⟩
  · obtain ⟨n1, n2, n3, n4, n5, n6⟩ := v2 j hj
    refine ⟨n1, n2, n3, ?_, fun k' hk' => ?_, fun k' hk' => ?_⟩
    · show up2 (hI g) (na i) k v (na j) 0 = nI j
      unfold up2; rw [if_neg (by omega)]; exact n4
    · show up2 (hI g) (na i) k v (na j) k' = up2 K (nrI k) i v (nrI k') j
      have hv' := nrI_v hk'
      by_cases c : j = i
      · by_cases c2 : k' = k
        · subst c; subst c2; unfold up2; rw [if_pos ⟨rfl, rfl⟩, if_pos ⟨rfl, rfl⟩]
        · unfold up2; rw [if_neg (fun x => c2 x.2), if_neg (by omega)]; exact n5 k' hk'
      · unfold up2; rw [if_neg (fun x => c (v5 j i hj hi x.1)), if_neg (fun x => c x.2)]; exact n5 k' hk'
    · have hv' := nrP_v hk'
      have e : up2 K (nrI k) i v (nrP k') j = K (nrP k') j := up2_ne (by omega)
      rw [e]; exact n6 k' hk'
  · have e : up2 K (nrI k) i v (trR k') (trF k') = K (trR k') (trF k') := up2_ne (by have := trR_v k'; omega)
    rw [e]; exact v3 k' h1 h2
  · have e : up2 K (nrI k) i v (trR k') (trF k') = K (trR k') (trF k') := up2_ne (by have := trR_v k'; omega)
    rw [e]
    show up2 (hI g) (na i) k v t k' = _
    rw [up2_offI (Ne.symm hne)]; exact v4 k' h1 h2
  · refine ⟨v6.1, v6.2.1, v6.2.2.1, v6.2.2.2.1, fun a ha => ⟨?_, (v6.2.2.2.2 a ha).2.1, (v6.2.2.2.2 a ha).2.2⟩⟩
    show up2 (hI g) (na i) k v a = _
    rw [up2_offI (fun c => ha (Or.inr ⟨i, hi, c⟩))]; exact (v6.2.2.2.2 a ha).1
theorem CV.wnP (V : CV g0 g t b na D K) (hi : D i) {k : Nat} (hk : nrP k ≠ 98) {v : Int32} (hd : pd D v) : CV g0 (sP g (na i) k (oa na v)) t b na D (up2 K (nrP k) i v) := by
  have hv := nrP_v hk
  have hne := V.nt hi
  have hnb := V.nb hi
  obtain ⟨v1, v2, v3, v4, v5, v6⟩ := V
  refine ⟨⟨v1.1, v1.2.1, ?_, v1.2.2.2⟩, fun j hj => ?_, fun k' h1 h2 => ?_, fun k' h1 h2 => ?_, v5, ?_⟩
  · show up2 (hP g) (na i) k (oa na v) t 0 = some b
    rw [up2_offI (Ne.symm hne)]; exact v1.2.2.1
  · obtain ⟨n1, n2, n3, n4, n5, n6⟩ := v2 j hj
    refine ⟨n1, n2, n3, n4, fun k' hk' => ?_, fun k' hk' => ?_⟩
    · have hv' := nrI_v hk'
      have e : up2 K (nrP k) i v (nrI k') j = K (nrI k') j := up2_ne (by omega)
      rw [e]; exact n5 k' hk'
    · show up2 (hP g) (na i) k (oa na v) (na j) k' = oa na (up2 K (nrP k) i v (nrP k') j) ∧ pd D (up2 K (nrP k) i v (nrP k') j)
      have hv' := nrP_v hk'
      by_cases c : j = i
      · by_cases c2 : k' = k
        · subst c; subst c2; unfold up2; rw [if_pos ⟨rfl, rfl⟩, if_pos ⟨rfl, rfl⟩]; exact ⟨rfl, hd⟩
        · unfold up2; rw [if_neg (fun x => c2 x.2), if_neg (by omega)]; exact n6 k' hk'
      · unfold up2; rw [if_neg (fun x => c (v5 j i hj hi x.1)), if_neg (fun x => c x.2)]; exact n6 k' hk'
  · have e : up2 K (nrP k) i v (trR k') (trF k') = K (trR k') (trF k') := up2_ne (by have := trR_v k'; omega)
    rw [e]
    show up2 (hP g) (na i) k (oa na v) t k' = _ ∧ _
    rw [up2_offI (Ne.symm hne)]; exact v3 k' h1 h2
  · have e : up2 K (nrP k) i v (trR k') (trF k') = K (trR k') (trF k') := up2_ne (by have := trR_v k'; omega)
    rw [e]; exact v4 k' h1 h2
  · refine ⟨v6.1, v6.2.1, v6.2.2.1, v6.2.2.2.1, fun a ha => ⟨(v6.2.2.2.2 a ha).1, ?_, (v6.2.2.2.2 a ha).2.2⟩⟩
    show up2 (hP g) (na i) k (oa na v) a = _
    rw [up2_offI (fun c => ha (Or.inr ⟨i, hi, c⟩))]; exact (v6.2.2.2.2 a ha).2.1
theorem CV.wtI (V : CV g0 g t b na D K) {k : Nat} (h1 : 4 ≤ k) (h2 : k ≤ 9) (v : Int32) : CV g0 (sI g t k v) t b na D (up2 K (trR k) (trF k) v) := by
  have hnt := fun j (hj : D j) => V.nt hj
  obtain ⟨v1, v2, v3, v4, v5, v6⟩ := V
  have hr := trR_v k
  refine ⟨v1, fun j hj => ?_, fun k' h1' h2' => ?_, fun k' h1' h2' => ?_, v5, ?_⟩
  · obtain ⟨n1, n2, n3, n4, n5, n6⟩ := v2 j hj
    refine ⟨n1, n2, n3, ?_, fun k' hk' => ?_, fun k' hk' => ?_⟩
    · show up2 (hI g) t k v (na j) 0 = nI j
      rw [up2_offI (hnt j hj)]; exact n4
    · have hv' := nrI_v hk'
      have e : up2 K (trR k) (trF k) v (nrI k') j = K (nrI k') j := up2_ne (by omega)
      rw [e]
      show up2 (hI g) t k v (na j) k' = _
      rw [up2_offI (hnt j hj)]; exact n5 k' hk'
    · have hv' := nrP_v hk'
      have e : up2 K (trR k) (trF k) v (nrP k') j = K (nrP k') j := up2_ne (by omega)
      rw [e]; exact n6 k' hk'
  · have e : up2 K (trR k) (trF k) v (trR k') (trF k') = K (trR k') (trF k') := up2_ne (fun c => by have := tr_inj k' (by omega) k (by omega) (by omega) (by omega) c.1 c.2; omega)
    rw [e]; exact v3 k' h1' h2'
  · show up2 (hI g) t k v t k' = up2 K (trR k) (trF k) v (trR k') (trF k')
    by_cases c : k' = k
    · subst c; unfold up2; rw [if_pos ⟨rfl, rfl⟩, if_pos ⟨rfl, rfl⟩]
    · have e : up2 K (trR k) (trF k) v (trR k') (trF k') = K (trR k') (trF k') := up2_ne (fun x => c (tr_inj k' (by omega) k (by omega) (by omega) (by omega) x.1 x.2))
      rw [e]; unfold up2; rw [if_neg (fun x => c x.2)]; exact v4 k' h1' h2'
  · refine ⟨v6.1, v6.2.1, v6.2.2.1, v6.2.2.2.1, fun a ha => ⟨?_, (v6.2.2.2.2 a ha).2.1, (v6.2.2.2.2 a ha).2.2⟩⟩
    show up2 (hI g) t k v a = _
    rw [up2_offI (fun c => ha (Or.inl c))]; exact (v6.2.2.2.2 a ha).1
theorem CV.wtP (V : CV g0 g t b na D K) {k : Nat} (h1 : 1 ≤ k) (h2 : k ≤ 3) {v : Int32} (hd : pd D v) : CV g0 (sP g t k (oa na v)) t b na D (up2 K (trR k) (trF k) v) := by
  have hnt := fun j (hj : D j) => V.nt hj
  obtain ⟨v1, v2, v3, v4, v5, v6⟩ := V
  have hr := trR_v k
  refine ⟨⟨v1.1, v1.2.1, ?_, v1.2.2.2⟩, fun j hj => ?_, fun k' h1' h2' => ?_, fun k' h1' h2' => ?_, v5, ?_⟩
  · show up2 (hP g) t k (oa na v) t 0 = some b
    unfold up2; rw [if_neg (by omega)]; exact v1.2.2.1
  · obtain ⟨n1, n2, n3, n4, n5, n6⟩ := v2 j hj
    refine ⟨n1, n2, n3, n4, fun k' hk' => ?_, fun k' hk' => ?_⟩
    · have hv' := nrI_v hk'
      have e : up2 K (trR k) (trF k) v (nrI k') j = K (nrI k') j := up2_ne (by omega)
      rw [e]; exact n5 k' hk'
    · have hv' := nrP_v hk'
      have e : up2 K (trR k) (trF k) v (nrP k') j = K (nrP k') j := up2_ne (by omega)
      rw [e]
      show up2 (hP g) t k (oa na v) (na j) k' = _ ∧ _
      rw [up2_offI (hnt j hj)]; exact n6 k' hk'
  · show up2 (hP g) t k (oa na v) t k' = oa na (up2 K (trR k) (trF k) v (trR k') (trF k')) ∧ pd D (up2 K (trR k) (trF k) v (trR k') (trF k'))
    by_cases c : k' = k
    · subst c; unfold up2; rw [if_pos ⟨rfl, rfl⟩, if_pos ⟨rfl, rfl⟩]; exact ⟨rfl, hd⟩
    · have e : up2 K (trR k) (trF k) v (trR k') (trF k') = K (trR k') (trF k') := up2_ne (fun x => c (tr_inj k' (by omega) k (by omega) (by omega) (by omega) x.1 x.2))
      rw [e]; unfold up2; rw [if_neg (fun x => c x.2)]; exact v3 k' h1' h2'
  · have e : up2 K (trR k) (trF k) v (trR k') (trF k') = K (trR k') (trF k') := up2_ne (fun c => by have := tr_inj k' (by omega) k (by omega) (by omega) (by omega) c.1 c.2; omega)
    rw [e]; exact v4 k' h1' h2'
  · refine ⟨v6.1, v6.2.1, v6.2.2.1, v6.2.2.2.1, fun a ha => ⟨(v6.2.2.2.2 a ha).1, ?_, (v6.2.2.2.2 a ha).2.2⟩⟩
    show up2 (hP g) t k (oa na v) a = _
    rw [up2_offI (fun c => ha (Or.inl c))]; exact (v6.2.2.2.2 a ha).2.1
/-! reading -/
theorem CV.kn (V : CV g0 g t b na D K) (h : D i) : hk g (na i) = 2 := (V.2.1 i h).2.2.1
theorem CV.kt (V : CV g0 g t b na D K) : hk g t = 5 := V.1.1
theorem CV.lt (V : CV g0 g t b na D K) (h : D i) : i < 500 := (V.2.1 i h).1
theorem CV.id (V : CV g0 g t b na D K) (h : D i) : hI g (na i) 0 = nI i := (V.2.1 i h).2.2.2.1
theorem CV.lo (V : CV g0 g t b na D K) (h : D i) : hI g (na i) 1 = K 1 i := (V.2.1 i h).2.2.2.2.1 1 (by decide)
theorem CV.hi (V : CV g0 g t b na D K) (h : D i) : hI g (na i) 2 = K 2 i := (V.2.1 i h).2.2.2.2.1 2 (by decide)
theorem CV.we (V : CV g0 g t b na D K) (h : D i) : hI g (na i) 3 = K 3 i := (V.2.1 i h).2.2.2.2.1 3 (by decide)
theorem CV.st (V : CV g0 g t b na D K) (h : D i) : hI g (na i) 4 = K 4 i := (V.2.1 i h).2.2.2.2.1 4 (by decide)
theorem CV.re (V : CV g0 g t b na D K) (h : D i) : hI g (na i) 5 = K 8 i := (V.2.1 i h).2.2.2.2.1 5 (by decide)
theorem CV.be (V : CV g0 g t b na D K) (h : D i) : hI g (na i) 11 = K 42 i := (V.2.1 i h).2.2.2.2.1 11 (by decide)
theorem CV.pa (V : CV g0 g t b na D K) (h : D i) : hP g (na i) 6 = oa na (K 7 i) ∧ pd D (K 7 i) := (V.2.1 i h).2.2.2.2.2 6 (by decide)
theorem CV.le (V : CV g0 g t b na D K) (h : D i) : hP g (na i) 7 = oa na (K 5 i) ∧ pd D (K 5 i) := (V.2.1 i h).2.2.2.2.2 7 (by decide)
theorem CV.ri (V : CV g0 g t b na D K) (h : D i) : hP g (na i) 8 = oa na (K 6 i) ∧ pd D (K 6 i) := (V.2.1 i h).2.2.2.2.2 8 (by decide)
theorem CV.bf (V : CV g0 g t b na D K) (h : D i) : hP g (na i) 9 = oa na (K 40 i) ∧ pd D (K 40 i) := (V.2.1 i h).2.2.2.2.2 9 (by decide)
theorem CV.af (V : CV g0 g t b na D K) (h : D i) : hP g (na i) 10 = oa na (K 41 i) ∧ pd D (K 41 i) := (V.2.1 i h).2.2.2.2.2 10 (by decide)
theorem CV.ro (V : CV g0 g t b na D K) : hP g t 1 = oa na (K 0 9) ∧ pd D (K 0 9) := V.2.2.1 1 (by decide) (by decide)
theorem CV.fi (V : CV g0 g t b na D K) : hP g t 2 = oa na (K 43 0) ∧ pd D (K 43 0) := V.2.2.1 2 (by decide) (by decide)
theorem CV.la (V : CV g0 g t b na D K) : hP g t 3 = oa na (K 43 1) ∧ pd D (K 43 1) := V.2.2.1 3 (by decide) (by decide)
theorem CV.ins (V : CV g0 g t b na D K) : hI g t 4 = K 0 10 := V.2.2.2.1 4 (by decide) (by decide)
theorem CV.nod (V : CV g0 g t b na D K) : hI g t 5 = K 0 11 := V.2.2.2.1 5 (by decide) (by decide)
theorem CV.liv (V : CV g0 g t b na D K) : hI g t 6 = K 43 2 := V.2.2.2.1 6 (by decide) (by decide)
theorem CV.per (V : CV g0 g t b na D K) : hI g t 7 = K 0 13 := V.2.2.2.1 7 (by decide) (by decide)
theorem CV.rbs (V : CV g0 g t b na D K) : hI g t 8 = K 0 14 := V.2.2.2.1 8 (by decide) (by decide)
theorem CV.rbt (V : CV g0 g t b na D K) : hI g t 9 = K 0 15 := V.2.2.2.1 9 (by decide) (by decide)
/-- equal addresses, equal ids -/
theorem CV.oeq (V : CV g0 g t b na D K) {x : Int32} (hx : pd D x) (h : D i) : oa na x = some (na i) ↔ x = nI i := by
  rcases hx with rfl | ⟨j, hj, rfl⟩
  · rw [oa_n]; exact ⟨fun c => (by cases c), fun c => (nI_m1 (n := i) (by have := V.lt h; omega) c.symm).elim⟩
  · rw [oa_s (V.lt hj)]
    exact ⟨fun c => by rw [V.2.2.2.2.1 j i hj h (Option.some.inj c)], fun c => by rw [nI_inj (V.lt hj) (V.lt h) c]⟩
theorem CV.congr {K' : MT} (V : CV g0 g t b na D K) (h1 : ∀ r i, D i → (r = 1 ∨ r = 2 ∨ r = 3 ∨ r = 4 ∨ r = 5 ∨ r = 6 ∨ r = 7 ∨ r = 8 ∨ r = 40 ∨ r = 41 ∨ r = 42) → K' r i = K r i) (h2 : ∀ i, (i = 9 ∨ i = 10 ∨ i = 11 ∨ i = 13 ∨ i = 14 ∨ i = 15) → K' 0 i = K 0 i) (h3 : ∀ i, i < 3 → K' 43 i = K 43 i) : CV g0 g t b na D K' := by
  obtain ⟨v1, v2, v3, v4, v5, v6⟩ := V
  have ht : ∀ k, 1 ≤ k → k ≤ 9 → K' (trR k) (trF k) = K (trR k) (trF k) := by
    intro k a b
    have : k = 1 ∨ k = 2 ∨ k = 3 ∨ k = 4 ∨ k = 5 ∨ k = 6 ∨ k = 7 ∨ k = 8 ∨ k = 9 := by omega
    rcases this with rfl | rfl | rfl | rfl | rfl | rfl | rfl | rfl | rfl
    · exact h2 9 (by omega)
    · exact h3 0 (by omega)
    · exact h3 1 (by omega)
    · exact h2 10 (by omega)
    · exact h2 11 (by omega)
    · exact h3 2 (by omega)
    · exact h2 13 (by omega)
    · exact h2 14 (by omega)
    · exact h2 15 (by omega)
  refine ⟨v1, fun j hj => ?_, fun k' a b => ?_, fun k' a b => ?_, v5, v6⟩
  · obtain ⟨n1, n2, n3, n4, n5, n6⟩ := v2 j hj
    refine ⟨n1, n2, n3, n4, fun k' hk' => ?_, fun k' hk' => ?_⟩
    · rw [h1 _ j hj (by have := nrI_v hk'; omega)]; exact n5 k' hk'
    · rw [h1 _ j hj (by have := nrP_v hk'; omega)]; exact n6 k' hk'
  · rw [ht k' a (by omega)]; exact v3 k' a b
  · rw [ht k' (by omega) b]; exact v4 k' a b
end VIEW
theorem onR_s {a : Nat} {f : Nat → Prop} : onR (some a) f = f a := rfl
theorem ifN_s {a : Nat} {A B : Prop} : ifN (some a) A B = B := rfl
theorem ifN_n {A B : Prop} : ifN none A B = A := rfl
theorem all1 {h : AHp} {a c : Nat} : (∀ q ∈ [((0 : Int), c)], hk h a = q.2) ↔ hk h a = c := by simp
