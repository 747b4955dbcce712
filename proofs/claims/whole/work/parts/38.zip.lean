/-! ===== a place in a tree and what lies around it ===== -/
abbrev Zc : Type := List (Bool × Nat × Tr)
def plug : Tr → Zc → Tr
  | t, [] => t
  | t, (true, p, s) :: cx => plug (.branch p t s) cx
  | t, (false, p, s) :: cx => plug (.branch p s t) cx
def upOf : Zc → Int32
  | [] => -1
  | (_, p, _) :: _ => nI p
def lfs : Zc → List Nat
  | [] => []
  | (true, _, _) :: cx => lfs cx
  | (false, p, s) :: cx => lfs cx ++ (ino s ++ [p])
def rgs : Zc → List Nat
  | [] => []
  | (true, p, s) :: cx => p :: (ino s ++ rgs cx)
  | (false, _, _) :: cx => rgs cx
def cids : Zc → List Nat
  | [] => []
  | (_, p, s) :: cx => p :: (ino s ++ cids cx)
theorem ino_b {n : Nat} {l r : Tr} : ino (.branch n l r) = ino l ++ n :: ino r := rfl
theorem ino_plug : ∀ (cx : Zc) (t : Tr), ino (plug t cx) = lfs cx ++ (ino t ++ rgs cx) := by
  intro cx
  induction cx with
  | nil => intro t; show ino t = [] ++ (ino t ++ []); simp
  | cons f cx ih =>
    intro t
    obtain ⟨b, p, s⟩ := f
    cases b with
    | true => show ino (plug (.branch p t s) cx) = lfs cx ++ (ino t ++ (p :: (ino s ++ rgs cx))); rw [ih, ino_b]; simp
    | false => show ino (plug (.branch p s t) cx) = (lfs cx ++ (ino s ++ [p])) ++ (ino t ++ rgs cx); rw [ih, ino_b]; simp
theorem plug_perm : ∀ (cx : Zc) (t : Tr), (ino (plug t cx)).Perm (ino t ++ cids cx) := by
  intro cx
  induction cx with
  | nil => intro t; show (ino t).Perm (ino t ++ []); rw [List.append_nil]
  | cons f cx ih =>
    intro t
    obtain ⟨b, p, s⟩ := f
    cases b with
    | true =>
      refine (ih (.branch p t s)).trans ?_
      show (ino (.branch p t s) ++ cids cx).Perm (ino t ++ (p :: (ino s ++ cids cx)))
      rw [ino_b, List.append_assoc, List.cons_append]
    | false =>
      refine (ih (.branch p s t)).trans ?_
      show (ino (.branch p s t) ++ cids cx).Perm (ino t ++ (p :: (ino s ++ cids cx)))
      rw [ino_b, List.perm_iff_count]
      intro a
      simp only [List.count_append, List.count_cons]
      omega
def EncC (M : MT) : Int32 → Zc → Prop
  | hole, [] => M 0 9 = hole
  | hole, (true, p, s) :: cx => M 7 p = upOf cx ∧ M 5 p = hole ∧ M 6 p = rootOf s ∧ Enc M (nI p) s ∧ EncC M (nI p) cx
  | hole, (false, p, s) :: cx => M 7 p = upOf cx ∧ M 6 p = hole ∧ M 5 p = rootOf s ∧ Enc M (nI p) s ∧ EncC M (nI p) cx
def EncZ (M : MT) (t : Tr) (cx : Zc) : Prop := Enc M (upOf cx) t ∧ EncC M (rootOf t) cx
theorem EncZ_t {M : MT} {t s : Tr} {p : Nat} {cx : Zc} : EncZ M t ((true, p, s) :: cx) ↔ EncZ M (.branch p t s) cx := by
  constructor
  · rintro ⟨e, a, b, c, d, f⟩; exact ⟨⟨a, b, c, e, d⟩, f⟩
  · rintro ⟨⟨a, b, c, e, d⟩, f⟩; exact ⟨e, a, b, c, d, f⟩
theorem EncZ_f {M : MT} {t s : Tr} {p : Nat} {cx : Zc} : EncZ M t ((false, p, s) :: cx) ↔ EncZ M (.branch p s t) cx := by
  constructor
  · rintro ⟨e, a, b, c, d, f⟩; exact ⟨⟨a, c, b, d, e⟩, f⟩
  · rintro ⟨⟨a, c, b, d, e⟩, f⟩; exact ⟨e, a, b, c, d, f⟩
theorem EncZ_plug {M : MT} : ∀ {cx : Zc} {t : Tr}, EncZ M t cx ↔ EncZ M (plug t cx) [] := by
  intro cx
  induction cx with
  | nil => intro t; exact Iff.rfl
  | cons f cx ih =>
    intro t
    obtain ⟨b, p, s⟩ := f
    cases b with
    | true => exact EncZ_t.trans ih
    | false => exact EncZ_f.trans ih
theorem EncC_congr {M M' : MT} : ∀ {cx : Zc} {hole : Int32}, (∀ n ∈ cids cx, M 5 n = M' 5 n ∧ M 6 n = M' 6 n ∧ M 7 n = M' 7 n) → M 0 9 = M' 0 9 → EncC M hole cx → EncC M' hole cx := by
  intro cx
  induction cx with
  | nil => intro hole _ h9 e; exact h9.symm.trans e
  | cons f cx ih =>
    intro hole h h9 e
    obtain ⟨b, p, s⟩ := f
    have hp := h p List.mem_cons_self
    have hs : ∀ n ∈ ino s, M 5 n = M' 5 n ∧ M 6 n = M' 6 n ∧ M 7 n = M' 7 n := fun n hn => h n (List.mem_cons_of_mem _ (List.mem_append_left _ hn))
    have hc : ∀ n ∈ cids cx, M 5 n = M' 5 n ∧ M 6 n = M' 6 n ∧ M 7 n = M' 7 n := fun n hn => h n (List.mem_cons_of_mem _ (List.mem_append_right _ hn))
    cases b with
    | true => obtain ⟨a, b, c, d, f⟩ := e; exact ⟨hp.2.2 ▸ a, hp.1 ▸ b, hp.2.1 ▸ c, Enc_congr hs d, ih hc h9 f⟩
    | false => obtain ⟨a, b, c, d, f⟩ := e; exact ⟨hp.2.2 ▸ a, hp.2.1 ▸ b, hp.1 ▸ c, Enc_congr hs d, ih hc h9 f⟩
theorem EncZ_congr {M M' : MT} {cx : Zc} {t : Tr} (h : ∀ n, M 5 n = M' 5 n ∧ M 6 n = M' 6 n ∧ M 7 n = M' 7 n) (h9 : M 0 9 = M' 0 9) (e : EncZ M t cx) : EncZ M' t cx :=
  ⟨Enc_congr (fun n _ => h n) e.1, EncC_congr (fun n _ => h n) h9 e.2⟩
theorem root_in {t : Tr} : rootOf t = -1 ∨ ∃ n, n ∈ ino t ∧ rootOf t = nI n := by
  cases t with
  | leaf _ => exact Or.inl rfl
  | branch n l r => exact Or.inr ⟨n, List.mem_append_right _ List.mem_cons_self, rfl⟩
theorem nI_inj {a b : Nat} (ha : a < 500) (hb : b < 500) (h : nI a = nI b) : a = b := by
  have := congrArg Int32.toNatClampNeg h
  rwa [nI_clamp (by omega), nI_clamp (by omega)] at this
/-- the same tree, with another root's parent -/
theorem Enc_re {M M' : MT} {t : Tr} {up up' : Int32} (hd : (ino t).Nodup) (h : ∀ n ∈ ino t, M 5 n = M' 5 n ∧ M 6 n = M' 6 n ∧ (nI n = rootOf t ∨ M 7 n = M' 7 n)) (hb : ∀ n ∈ ino t, n < 500) (hr : ∀ n ∈ ino t, rootOf t = nI n → M' 7 n = up') (e : Enc M up t) : Enc M' up' t := by
  cases t with
  | leaf _ => trivial
  | branch n l r =>
    obtain ⟨e1, e2, e3, e4, e5⟩ := e
    have mn : n ∈ ino (.branch n l r) := List.mem_append_right _ List.mem_cons_self
    have hn := h n mn
    rw [ino_b] at hd
    have hl : ∀ x ∈ ino l, x ≠ n := fun x hx he => by
      have := (List.nodup_append.mp hd).2.2 x hx n List.mem_cons_self
      exact this he
    have hr' : ∀ x ∈ ino r, x ≠ n := fun x hx he => by
      have := (List.nodup_cons.mp (List.nodup_append.mp hd).2.1).1
      exact this (he ▸ hx)
    refine ⟨hr n mn rfl, hn.1 ▸ e2, hn.2.1 ▸ e3, Enc_congr (fun x hx => ?_) e4, Enc_congr (fun x hx => ?_) e5⟩
    · have mx : x ∈ ino (.branch n l r) := List.mem_append_left _ hx
      have q := h x mx
      exact ⟨q.1, q.2.1, q.2.2.resolve_left fun c => hl x hx (nI_inj (hb x mx) (hb n mn) c)⟩
    · have mx : x ∈ ino (.branch n l r) := List.mem_append_right _ (List.mem_cons_of_mem _ hx)
      have q := h x mx
      exact ⟨q.1, q.2.1, q.2.2.resolve_left fun c => hr' x hx (nI_inj (hb x mx) (hb n mn) c)⟩
theorem hangM_off {M : MT} {u w : Int32} {n k i : Nat} (h0 : ¬ (k = 0 ∧ i = 9)) (h7 : ¬ (k = 7 ∧ i = n)) (h5 : ¬ (k = 5 ∧ nI i = u)) (h6 : ¬ (k = 6 ∧ nI i = u)) (hu : pt u) : hangM M u w n k i = M k i := by
  unfold hangM
  rcases hu with rfl | hu
  · rw [if_pos rfl, up2_ne h0, up2_ne h7]
  · obtain ⟨q, hq, rfl⟩ := ix_ex hu (by decide)
    rw [nI_clamp (by omega)]
    split
    · rw [up2_ne h0, up2_ne h7]
    · have a5 : ¬ (k = 5 ∧ i = q) := fun c => h5 ⟨c.1, by rw [c.2]⟩
      have a6 : ¬ (k = 6 ∧ i = q) := fun c => h6 ⟨c.1, by rw [c.2]⟩
      split
      · rw [up2_ne a5, up2_ne h7]
      · rw [up2_ne a6, up2_ne h7]
theorem hangM_7 {M : MT} {u w : Int32} {n : Nat} : hangM M u w n 7 n = u := by
  unfold hangM
  split
  · rw [up2_ne (by omega), up2_at]
  · split
    · rw [up2_ne (by omega), up2_at]
    · rw [up2_ne (by omega), up2_at]
theorem hang_enc {M : MT} {cx : Zc} {p n : Nat} (e : EncC M (nI p) cx) (hd : (cids cx).Nodup) (hb : ∀ x ∈ cids cx, x < 500) (hp5 : p < 500) (hp : p ∉ cids cx) (hn : n ∉ cids cx) : EncC (hangM M (upOf cx) (nI p) n) (nI n) cx := by
  cases cx with
  | nil => unfold hangM; rw [if_pos (show upOf [] = -1 from rfl)]; exact up2_at
  | cons f cx =>
    obtain ⟨b, q, s⟩ := f
    have hq5 : q < 500 := hb q List.mem_cons_self
    have hnq : ¬ n = q := fun c => hn (c ▸ List.mem_cons_self)
    have hu : upOf ((b, q, s) :: cx) = nI q := rfl
    have hd' : q ∉ ino s ++ cids cx := (List.nodup_cons.mp hd).1
    have hqs : ∀ x ∈ ino s, ¬ x = q ∧ ¬ x = n := fun x hx => ⟨fun c => hd' (List.mem_append_left _ (c ▸ hx)), fun c => hn (List.mem_cons_of_mem _ (List.mem_append_left _ (c ▸ hx)))⟩
    have hqc : ∀ x ∈ cids cx, ¬ x = q ∧ ¬ x = n := fun x hx => ⟨fun c => hd' (List.mem_append_right _ (c ▸ hx)), fun c => hn (List.mem_cons_of_mem _ (List.mem_append_right _ (c ▸ hx)))⟩
    unfold hangM
    rw [hu, if_neg (nI_m1 (by omega)), nI_clamp (by omega)]
    cases b with
    | true =>
      obtain ⟨a, b, c, d, f⟩ := e
      rw [if_pos b]
      refine ⟨?_, up2_at, ?_, Enc_congr (fun x hx => ?_) d, EncC_congr (fun x hx => ?_) ?_ f⟩
      · rw [up2_ne (by omega), up2_ne (by omega)]; exact a
      · rw [up2_ne (by omega), up2_ne (by omega)]; exact c
      · have := hqs x hx
        exact ⟨by rw [up2_ne (by omega), up2_ne (by omega)], by rw [up2_ne (by omega), up2_ne (by omega)], by rw [up2_ne (by omega), up2_ne (by omega)]⟩
      · have := hqc x hx
        exact ⟨by rw [up2_ne (by omega), up2_ne (by omega)], by rw [up2_ne (by omega), up2_ne (by omega)], by rw [up2_ne (by omega), up2_ne (by omega)]⟩
      · rw [up2_ne (by omega), up2_ne (by omega)]
    | false =>
      obtain ⟨a, b, c, d, f⟩ := e
      have hne : ¬ M 5 q = nI p := by
        rw [c]
        rcases root_in (t := s) with h | ⟨m, hm, h⟩
        · rw [h]; exact fun c => nI_m1 (n := p) (by omega) c.symm
        · rw [h]; intro c2
          have hm5 : m < 500 := hb m (List.mem_cons_of_mem _ (List.mem_append_left _ hm))
          exact hp (nI_inj hm5 hp5 c2 ▸ List.mem_cons_of_mem _ (List.mem_append_left _ hm))
      rw [if_neg hne]
      refine ⟨?_, up2_at, ?_, Enc_congr (fun x hx => ?_) d, EncC_congr (fun x hx => ?_) ?_ f⟩
      · rw [up2_ne (by omega), up2_ne (by omega)]; exact a
      · rw [up2_ne (by omega), up2_ne (by omega)]; exact c
      · have := hqs x hx
        exact ⟨by rw [up2_ne (by omega), up2_ne (by omega)], by rw [up2_ne (by omega), up2_ne (by omega)], by rw [up2_ne (by omega), up2_ne (by omega)]⟩
      · have := hqc x hx
        exact ⟨by rw [up2_ne (by omega), up2_ne (by omega)], by rw [up2_ne (by omega), up2_ne (by omega)], by rw [up2_ne (by omega), up2_ne (by omega)]⟩
      · rw [up2_ne (by omega), up2_ne (by omega)]
theorem pt_up {cx : Zc} (hb : ∀ x ∈ cids cx, x < 500) : pt (upOf cx) := by
  cases cx with
  | nil => exact Or.inl rfl
  | cons f cx => exact Or.inr (ix_nI (hb f.2.1 List.mem_cons_self) (by decide))
theorem up_out {cx : Zc} {i : Nat} (hi : i < 500) (hb : ∀ x ∈ cids cx, x < 500) (h : i ∉ cids cx) : ¬ nI i = upOf cx := by
  cases cx with
  | nil => exact nI_m1 (by omega)
  | cons f cx =>
    intro c
    exact h (nI_inj hi (hb f.2.1 List.mem_cons_self) c ▸ List.mem_cons_self)
