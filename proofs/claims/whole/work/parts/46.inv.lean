/-! ===== what holds of the reference's tree at all times ===== -/
def live (M : MT) (T : Tr) : List Nat := (ino T).filter (fun x => decide (M 4 x = 0))
def gone (M : MT) (T : Tr) : List Nat := (ino T).filter (fun x => decide (M 4 x = 1))
def TI (M : MT) (T : Tr) (N : Nat) (W : Int) : Prop :=
  M 0 10 = nI N ∧ N ≤ 500 ∧ FinT M T (ino T) ∧ (ino T).Pairwise (less M) ∧ (∀ x, x ∈ ino T ↔ x < N ∧ ¬ M 4 x = 2) ∧ (∀ x, x < N → M 4 x = 0 ∨ M 4 x = 1 ∨ M 4 x = 2) ∧
  (∀ x, x < N → -1000 ≤ (M 1 x).toInt ∧ (M 1 x).toInt ≤ (M 2 x).toInt ∧ (M 2 x).toInt ≤ 1000) ∧ (∀ x, x < N → -W ≤ (M 3 x).toInt ∧ (M 3 x).toInt ≤ W) ∧
  M 0 11 = nI (ino T).length ∧ (ino T).length ≤ 100 ∧ M 0 12 = nI (gone M T).length ∧ (10 ≤ (M 0 13).toInt ∧ (M 0 13).toInt ≤ 100) ∧ (∀ i, b01 (M 8 i))
theorem FinT_congr {M M' : MT} {T : Tr} {L : List Nat} (h : ∀ r i, 5 ≤ r → r ≤ 8 → M' r i = M r i) (h9 : M' 0 9 = M 0 9) (F : FinT M T L) : FinT M' T L := by
  obtain ⟨e, hi, ⟨k, B⟩, hr⟩ := F
  have h8 : ∀ i ∈ ino T, rd M i = rd M' i := fun i _ => rd_eq (h 8 i (by decide) (by decide))
  refine ⟨EncZ_congr (fun x => ⟨(h 5 x (by decide) (by decide)).symm, (h 6 x (by decide) (by decide)).symm, (h 7 x (by decide) (by decide)).symm⟩) h9.symm e, hi, ⟨k, RB_congr h8 B⟩, ?_⟩
  rw [← isRedT_congr h8]; exact hr
theorem filt_congr {M M' : MT} {l : List Nat} {v : Int32} (h : ∀ x ∈ l, M' 4 x = M 4 x) : l.filter (fun x => decide (M' 4 x = v)) = l.filter (fun x => decide (M 4 x = v)) :=
  List.filter_congr (fun x hx => by rw [h x hx])
theorem TI_congr {M M' : MT} {T : Tr} {N : Nat} {W : Int} (h : ∀ r i, 1 ≤ r → r ≤ 8 → M' r i = M r i) (h0 : ∀ i, 9 ≤ i → i ≤ 13 → M' 0 i = M 0 i) (I : TI M T N W) : TI M' T N W := by
  obtain ⟨i1, i2, i3, i4, i5, i6, i7, i8, i9, i10, i11, i12, i13⟩ := I
  have h4 : ∀ x, M' 4 x = M 4 x := fun x => h 4 x (by decide) (by decide)
  refine ⟨(h0 10 (by decide) (by decide)).trans i1, i2, FinT_congr (fun r i a b => h r i (by omega) b) (h0 9 (by decide) (by decide)) i3, i4.imp (fun {a b} q => (less_cong (fun i => ⟨h 1 i (by decide) (by decide), h 2 i (by decide) (by decide)⟩)).mpr q), fun x => ?_, fun x hx => ?_, fun x hx => ?_, fun x hx => ?_, (h0 11 (by decide) (by decide)).trans i9, i10, ?_, ?_, fun i => ?_⟩
  · rw [h4]; exact i5 x
  · rw [h4]; exact i6 x hx
  · rw [h 1 x (by decide) (by decide), h 2 x (by decide) (by decide)]; exact i7 x hx
  · rw [h 3 x (by decide) (by decide)]; exact i8 x hx
  · rw [h0 12 (by decide) (by decide), i11]; unfold gone; rw [filt_congr (fun x _ => h4 x)]
  · rw [h0 13 (by decide) (by decide)]; exact i12
  · rw [h 8 i (by decide) (by decide)]; exact i13 i
theorem TI_thn {M : MT} {T : Tr} {N : Nat} {W : Int} {k : Int32} (I : TI M T N W) : TI (thn M k) T N W :=
  TI_congr (fun r i h _ => thn_ne (by omega)) (fun i h _ => thn_f (by omega)) I
theorem live_thn {M : MT} {T : Tr} {k : Int32} : live (thn M k) T = live M T := filt_congr (fun x _ => thn_ne (by decide))
theorem less_asymm {M : MT} {a b : Nat} (h1 : less M a b) (h2 : less M b a) : False := less_irrefl (less_trans h1 h2)
theorem sorted_unique {M : MT} : ∀ {l1 l2 : List Nat}, l1.Pairwise (less M) → l2.Pairwise (less M) → (∀ x, x ∈ l1 ↔ x ∈ l2) → l1 = l2 := by
  intro l1
  induction l1 with
  | nil =>
    intro l2 _ _ h
    cases l2 with
    | nil => rfl
    | cons b l2 => exact absurd ((h b).mpr List.mem_cons_self) (by intro c; cases c)
  | cons a l1 ih =>
    intro l2 p1 p2 h
    cases l2 with
    | nil => exact absurd ((h a).mp List.mem_cons_self) (by intro c; cases c)
    | cons b l2 =>
      have q1 := List.pairwise_cons.mp p1
      have q2 := List.pairwise_cons.mp p2
      have hab : a = b := by
        rcases List.mem_cons.mp ((h a).mp List.mem_cons_self) with c | c
        · exact c
        · rcases List.mem_cons.mp ((h b).mpr List.mem_cons_self) with d | d
          · exact d.symm
          · exact (less_asymm (q2.1 a c) (q1.1 b d)).elim
      subst hab
      rw [ih q1.2 q2.2 (fun x => ?_)]
      constructor
      · intro hx
        rcases List.mem_cons.mp ((h x).mp (List.mem_cons_of_mem _ hx)) with c | c
        · subst c; exact (less_irrefl (q1.1 x hx)).elim
        · exact c
      · intro hx
        rcases List.mem_cons.mp ((h x).mpr (List.mem_cons_of_mem _ hx)) with c | c
        · subst c; exact (less_irrefl (q2.1 x hx)).elim
        · exact c
section INV
variable {M : MT} {T : Tr} {N : Nat} {W : Int}
theorem TI.mem_live (I : TI M T N W) (x : Nat) : x ∈ live M T ↔ x < N ∧ M 4 x = 0 := by
  obtain ⟨i1, i2, i3, i4, i5, i6, -⟩ := I
  unfold live
  rw [List.mem_filter, i5, decide_eq_true_iff]
  constructor
  · rintro ⟨⟨a, -⟩, b⟩; exact ⟨a, b⟩
  · rintro ⟨a, b⟩; exact ⟨⟨a, by rw [b]; decide⟩, b⟩
theorem TI.live_sorted (I : TI M T N W) : (live M T).Pairwise (less M) := I.2.2.2.1.filter _
theorem TI.row (I : TI M T N W) {l : List Nat} (h : LiveRow M N l) : l = live M T :=
  sorted_unique h.1 I.live_sorted (fun x => by rw [h.2.1, I.mem_live])
theorem TI.lt (I : TI M T N W) {x : Nat} (h : x ∈ ino T) : x < N ∧ x < 500 := by
  have := ((I.2.2.2.2.1 x).mp h).1; have := I.2.1; omega
theorem TI.nodup (I : TI M T N W) : (ino T).Nodup := pw_nodup I.2.2.2.1
theorem TI.st (I : TI M T N W) {x : Nat} (h : x ∈ ino T) : M 4 x = 0 ∨ M 4 x = 1 := by
  have := (I.2.2.2.2.1 x).mp h
  rcases I.2.2.2.2.2.1 x this.1 with c | c | c
  · exact Or.inl c
  · exact Or.inr c
  · exact (this.2 c).elim
theorem filt_len : ∀ (l : List Nat), (∀ x ∈ l, M 4 x = 0 ∨ M 4 x = 1) → (l.filter (fun x => decide (M 4 x = 0))).length + (l.filter (fun x => decide (M 4 x = 1))).length = l.length := by
  intro l
  induction l with
  | nil => intro _; rfl
  | cons a l ih =>
    intro h
    have := ih (fun x hx => h x (List.mem_cons_of_mem _ hx))
    rw [List.filter_cons, List.filter_cons, List.length_cons]
    rcases h a List.mem_cons_self with c | c
    · rw [c, if_pos (by decide), if_neg (by decide), List.length_cons]; omega
    · rw [c, if_neg (by decide), if_pos (by decide), List.length_cons]; omega
theorem TI.len (I : TI M T N W) : (live M T).length + (gone M T).length = (ino T).length := filt_len _ (fun x hx => I.st hx)
theorem nI_sub {a b : Nat} (h : b ≤ a) : nI a - nI b = nI (a - b) := by
  have : nI a = nI (a - b) + nI b := by rw [nI_add]; congr 1; omega
  rw [this]; exact Int32.add_sub_cancel _ _
theorem TI.size (I : TI M T N W) : M 0 11 - M 0 12 = nI (live M T).length := by
  have := I.len
  obtain ⟨-, -, -, -, -, -, -, -, i9, -, i11, -⟩ := I
  rw [i9, i11, nI_sub (by omega)]; congr 1; omega
theorem TI_reb {M' : MT} (I : TI M T N W) (P : RebP M M' N (live M T)) : TI M' (bt 7 (live M T)) N W := by
  have hlen := I.len
  have hsort := I.live_sorted
  have hmem := I.mem_live
  obtain ⟨i1, i2, i3, i4, i5, i6, i7, i8, i9, i10, i11, i12, i13⟩ := I
  obtain ⟨p1, p2, p3, p4, p5, p6, p7, p8, p9⟩ := P
  have hi : ino (bt 7 (live M T)) = live M T := ino_bt 7 _ (by omega)
  have ho : ∀ r i, (r = 1 ∨ r = 2 ∨ r = 3) → M' r i = M r i := fun r i h => p8 r i (by omega) (by omega) (by omega) (by omega) (by omega) (by omega) (by omega) (by omega) (by omega)
  have h0 : ∀ i, (i = 10 ∨ i = 13) → M' 0 i = M 0 i := fun i h => p8 0 i (by omega) (by omega) (by omega) (by omega) (by omega) (by omega) (by omega) (by omega) (by omega)
  have hl0 : ∀ x ∈ live M T, M' 4 x = 0 := fun x hx => by
    have := (hmem x).mp hx
    rw [p1, if_neg (fun c => by rw [this.2] at c; exact absurd c.2 (by decide))]; exact this.2
  refine ⟨(h0 10 (by omega)).trans i1, i2, ?_, ?_, fun x => ?_, fun x hx => ?_, fun x hx => ?_, fun x hx => ?_, ?_, ?_, ?_, ?_, p9 i13⟩
  · rw [hi]; exact FinT_bt (by omega) p2 p3
  · rw [hi]; exact hsort.imp (fun {a b} q => (less_cong (fun i => ⟨ho 1 i (by omega), ho 2 i (by omega)⟩)).mpr q)
  · rw [hi, hmem, p1]
    constructor
    · rintro ⟨a, b⟩; exact ⟨a, by rw [if_neg (fun c => by rw [b] at c; exact absurd c.2 (by decide)), b]; decide⟩
    · rintro ⟨a, b⟩
      refine ⟨a, ?_⟩
      rcases i6 x a with c | c | c
      · exact c
      · exact (b (by rw [if_pos ⟨a, c⟩])).elim
      · exact (b (by rw [if_neg (fun d => by rw [c] at d; exact absurd d.2 (by decide)), c])).elim
  · rw [p1]; split
    · exact Or.inr (Or.inr rfl)
    · exact i6 x hx
  · rw [ho 1 x (by omega), ho 2 x (by omega)]; exact i7 x hx
  · rw [ho 3 x (by omega)]; exact i8 x hx
  · rw [p4, hi]
  · rw [hi]; omega
  · rw [p5]; unfold gone
    rw [hi, List.filter_eq_nil_iff.mpr (fun x hx => by rw [hl0 x hx]; decide)]; rfl
  · rw [h0 13 (by omega)]; exact i12
/-! insertion -/
def in1 (M : MT) (N : Nat) (l h w : Int32) : MT := up2 (up2 (up2 (up2 M 1 N l) 2 N h) 3 N w) 4 N 0
def inC (M : MT) (T : Tr) (N : Nat) (l h w : Int32) : Zc := down (in1 M N l h w) N T []
def insM (M : MT) (T : Tr) (N : Nat) (l h w : Int32) : MT :=
  up2 (up2 (mendM 40 (hnM (in1 M N l h w) N (inC M T N l h w)) N) 0 11 (M 0 11 + 1)) 0 10 (nI (N + 1))
theorem in1_ne {l h w : Int32} {r i : Nat} (q : i ≠ N ∨ (r ≠ 1 ∧ r ≠ 2 ∧ r ≠ 3 ∧ r ≠ 4)) : in1 M N l h w r i = M r i := by
  unfold in1; rw [up2_ne (by omega), up2_ne (by omega), up2_ne (by omega), up2_ne (by omega)]
theorem in1_1 {l h w : Int32} : in1 M N l h w 1 N = l := by unfold in1; rw [up2_ne (by omega), up2_ne (by omega), up2_ne (by omega), up2_at]
theorem in1_2 {l h w : Int32} : in1 M N l h w 2 N = h := by unfold in1; rw [up2_ne (by omega), up2_ne (by omega), up2_at]
theorem in1_3 {l h w : Int32} : in1 M N l h w 3 N = w := by unfold in1; rw [up2_ne (by omega), up2_at]
theorem in1_4 {l h w : Int32} : in1 M N l h w 4 N = 0 := by unfold in1; rw [up2_at]
theorem TI.in1 (I : TI M T N W) (l h w : Int32) : FinT (in1 M N l h w) T (ino T) ∧ N ∉ ino T ∧ (ino T).Pairwise (less (in1 M N l h w)) := by
  refine ⟨FinT_congr (fun r i a b => in1_ne (by omega)) (in1_ne (by omega)) I.2.2.1, fun c => absurd (I.lt c).1 (Nat.lt_irrefl _), ?_⟩
  refine List.Pairwise.imp_of_mem (fun {a b} ha hb q => ?_) I.2.2.2.1
  have h1 := (I.lt ha).1
  have h2 := (I.lt hb).1
  unfold less
  rw [in1_ne (by omega), in1_ne (by omega), in1_ne (by omega), in1_ne (by omega)]
  exact q
theorem ins_len (I : TI M T N W) {l h w : Int32} : (inC M T N l h w).length < 40 := by
  have h1 : (inC M T N l h w).length ≤ tht T + 0 := down_len T []
  obtain ⟨-, -, ⟨-, -, ⟨k, B⟩, -⟩, -, -, -, -, -, -, i10, -⟩ := I
  rw [tsz_ino] at i10
  have := RB_low B i10
  omega
theorem ins_zp (I : TI M T N W) (hN5 : N < 500) (l h w : Int32) : Zp (hnM (in1 M N l h w) N (inC M T N l h w)) N (inC M T N l h w) (lfs (inC M T N l h w) ++ (N :: rgs (inC M T N l h w))) ∧ ino T = lfs (inC M T N l h w) ++ rgs (inC M T N l h w) ∧
    (lfs (inC M T N l h w) ++ (N :: rgs (inC M T N l h w))).Pairwise (less (in1 M N l h w)) ∧ (lfs (inC M T N l h w) ++ (N :: rgs (inC M T N l h w))).Nodup ∧ (∀ x ∈ lfs (inC M T N l h w) ++ (N :: rgs (inC M T N l h w)), x < 500) := by
  obtain ⟨h1, h2, h3⟩ := I.in1 l h w
  obtain ⟨a, b, c, d⟩ := hn_zp h1 I.nodup h2 h3
  refine ⟨a, b, c, d, fun x hx => ?_⟩
  rcases List.mem_append.mp hx with hx | hx
  · exact (I.lt (b ▸ List.mem_append_left _ hx)).2
  · rcases List.mem_cons.mp hx with rfl | hx
    · exact hN5
    · exact (I.lt (b ▸ List.mem_append_right _ hx)).2
theorem insM_o {l h w : Int32} {r i : Nat} (q : offT r i) (q0 : ¬ (r = 0 ∧ (i = 10 ∨ i = 11))) : insM M T N l h w r i = in1 M N l h w r i := by
  unfold insM; rw [up2_ne (by omega), up2_ne (by omega), mendM_o q, hnM_o q]
theorem TI_ins (I : TI M T N W) (hN5 : N < 500) (h100 : (ino T).length < 100) {l h w : Int32} (hl : -1000 ≤ l.toInt) (hh : l.toInt ≤ h.toInt) (hh2 : h.toInt ≤ 1000) (hw : 0 ≤ w.toInt) (hw2 : w.toInt ≤ 999) (hW : 999 ≤ W) :
    ∃ T', TI (insM M T N l h w) T' (N + 1) W ∧ ino T' = lfs (inC M T N l h w) ++ (N :: rgs (inC M T N l h w)) ∧ FinT (mendM 40 (hnM (in1 M N l h w) N (inC M T N l h w)) N) T' (ino T') := by
  obtain ⟨Z, hL, hs, hd, hb⟩ := ins_zp I hN5 l h w
  have hlen := ins_len I (l := l) (h := h) (w := w)
  obtain ⟨T', F⟩ := mend_ok (f := 40) (by intro c; have := congrArg List.length c; simp at this) hd hb Z hlen
  refine ⟨T', ?_, F.2.1, by rw [F.2.1]; exact F⟩
  have hT' := F.2.1
  obtain ⟨i1, i2, i3, i4, i5, i6, i7, i8, i9, i10, i11, i12, i13⟩ := I
  have o : ∀ r i, (r = 1 ∨ r = 2 ∨ r = 3 ∨ r = 4) → insM M T N l h w r i = in1 M N l h w r i := fun r i q => insM_o ⟨by omega, by omega, by omega, by omega, by omega⟩ (by omega)
  have o0 : ∀ i, (i = 12 ∨ i = 13) → insM M T N l h w 0 i = M 0 i := fun i q => by
    rw [insM_o ⟨by omega, by omega, by omega, by omega, by omega⟩ (by omega), in1_ne (by omega)]
  have hN : ∀ x, x < N + 1 → x = N ∨ x < N := fun x h => by omega
  have hmem : ∀ x, x ∈ ino T' ↔ x = N ∨ x ∈ ino T := fun x => by rw [hT', hL]; simp only [List.mem_append, List.mem_cons]; exact ⟨fun h => by rcases h with h | h | h <;> simp [h], fun h => by rcases h with h | h | h <;> simp [h]⟩
  refine ⟨?_, by omega, ?_, ?_, fun x => ?_, fun x hx => ?_, fun x hx => ?_, fun x hx => ?_, ?_, ?_, ?_, ?_, fun i => ?_⟩
  · unfold insM; exact up2_at
  · rw [hT']; exact FinT_congr (fun r i a b => by unfold insM; rw [up2_ne (by omega), up2_ne (by omega)]) (by unfold insM; rw [up2_ne (by omega), up2_ne (by omega)]) F
  · rw [hT']; exact hs.imp (fun {a b} q => (less_cong (fun i => ⟨o 1 i (by omega), o 2 i (by omega)⟩)).mpr q)
  · rw [hmem, o 4 x (by omega)]
    by_cases c : x = N
    · subst c; rw [in1_4]; exact ⟨fun _ => ⟨by omega, by decide⟩, fun _ => Or.inl rfl⟩
    · rw [in1_ne (Or.inl c), i5]
      exact ⟨fun q => q.elim (fun e => (c e).elim) (fun q => ⟨by omega, q.2⟩), fun q => Or.inr ⟨by omega, q.2⟩⟩
  · rw [o 4 x (by omega)]
    rcases hN x hx with rfl | h
    · rw [in1_4]; exact Or.inl rfl
    · rw [in1_ne (by omega)]; exact i6 x h
  · rw [o 1 x (by omega), o 2 x (by omega)]
    rcases hN x hx with rfl | h
    · rw [in1_1, in1_2]; omega
    · rw [in1_ne (by omega), in1_ne (by omega)]; exact i7 x h
  · rw [o 3 x (by omega)]
    rcases hN x hx with rfl | h
    · rw [in1_3]; omega
    · rw [in1_ne (by omega)]; exact i8 x h
  · have : (ino T').length = (ino T).length + 1 := by rw [hT', hL, List.length_append, List.length_cons, List.length_append]; omega
    unfold insM; rw [up2_ne (by omega), up2_at, i9, nI_1, this]
  · have : (ino T').length = (ino T).length + 1 := by rw [hT', hL, List.length_append, List.length_cons, List.length_append]; omega
    omega
  · rw [o0 12 (by omega), i11]; congr 2
    unfold gone
    have hf : ∀ s : List Nat, (∀ x ∈ s, x ∈ ino T) → s.filter (fun x => decide (M 4 x = 1)) = s.filter (fun x => decide (insM M T N l h w 4 x = 1)) := fun s hs => by
      refine (filt_congr (fun x hx => ?_)).symm
      have : x < N := ((i5 x).mp (hs x hx)).1
      rw [o 4 x (by omega), in1_ne (by omega)]
    rw [hT', List.filter_append, List.filter_cons, if_neg (by rw [o 4 N (by omega), in1_4]; decide), ← hf _ (fun x hx => hL ▸ List.mem_append_left _ hx), ← hf _ (fun x hx => hL ▸ List.mem_append_right _ hx), ← List.filter_append, ← hL]
  · rw [o0 13 (by omega)]; exact i12
  · unfold insM; rw [up2_ne (by omega), up2_ne (by omega)]
    refine mendM_b (fun j => ?_) i
    rw [hnM_8]; split
    · exact b01_1
    · rw [in1_ne (by omega)]; exact i13 j
variable {z : Nat × Nat} {d : Nat} {Q : Option AV → MT → Prop}
theorem S_ins91 (I : TI M T N W) (hN5 : N < 500) (hd : 4 < d) {l h w : Int32} (q : Q (some (vi (nI N))) (insM M T N l h w)) : WK z d j_Mo_insert 91 [some (vr (some 0)), some (vi l), some (vi h), some (vi w)] [] M Q := by
  have hN := I.1
  have xN : ix (nI N) 500 := ix_nI hN5 (by decide)
  obtain ⟨Z, hL, hs, hnd, hb⟩ := ins_zp I hN5 l h w
  have hlen := ins_len I (l := l) (h := h) (w := w)
  refine M_insert_91 ⟨by rw [hN]; exact xN, by rw [up2_ne (by omega), hN]; exact xN, fun M1 e1 => ?_⟩
  have k1 : M1 = up2 (up2 M 1 N l) 2 N h := by rw [e1, up2_ne (by omega), hN, nI_clamp (by omega)]
  have n1 : M1 0 10 = nI N := by rw [k1, up2_ne (by omega), up2_ne (by omega), hN]
  refine ⟨by rw [n1]; exact xN, by rw [up2_ne (by omega), n1]; exact xN, fun M2 e2 => ?_⟩
  have k2 : M2 = in1 M N l h w := by rw [e2, up2_ne (by omega), n1, nI_clamp (by omega), k1]; rfl
  subst k2
  have n2 : in1 M N l h w 0 10 = nI N := by rw [in1_ne (by omega), hN]
  refine ⟨by omega, ?_⟩
  rw [n2]
  refine S_hangsNew hN5 (by omega) (I.in1 l h w).1.1 (fun x hx => (I.lt hx).2) ⟨by omega, ?_⟩
  rw [show hnM (in1 M N l h w) N (down (in1 M N l h w) N T []) 0 10 = nI N by rw [hnM_o ⟨by omega, by omega, by omega, by omega, by omega⟩, n2]]
  refine S_mends (f := 40) (by omega) (by intro c; have := congrArg List.length c; simp at this) hnd hb hN5 Z hlen (fun M9 e9 => ?_)
  have m10 : mendM 40 (hnM (in1 M N l h w) N (inC M T N l h w)) N 0 10 = nI N := by rw [mendM_o ⟨by omega, by omega, by omega, by omega, by omega⟩, hnM_o ⟨by omega, by omega, by omega, by omega, by omega⟩, n2]
  have m11 : mendM 40 (hnM (in1 M N l h w) N (inC M T N l h w)) N 0 11 = M 0 11 := by rw [mendM_o ⟨by omega, by omega, by omega, by omega, by omega⟩, hnM_o ⟨by omega, by omega, by omega, by omega, by omega⟩, in1_ne (by omega)]
  rw [show down (in1 M N l h w) N T [] = inC M T N l h w from rfl, up2_ne (by omega), m10, m11, nI_1] at e9
  rw [e9, up2_at, nI_pred]
  exact q
end INV
