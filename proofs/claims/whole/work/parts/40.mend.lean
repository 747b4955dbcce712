/-! ===== mending after an insertion, on trees ===== -/
def rd (M : MT) (i : Nat) : Bool := !(decide (M 8 i = 0))
theorem rd_t {M : MT} {i : Nat} (h : ¬ M 8 i = 0) : rd M i = true := by unfold rd; rw [decide_eq_false h]; rfl
theorem rd_f {M : MT} {i : Nat} (h : M 8 i = 0) : rd M i = false := by unfold rd; rw [decide_eq_true h]; rfl
theorem of_rd_t {M : MT} {i : Nat} (h : rd M i = true) : ¬ M 8 i = 0 := fun c => by rw [rd_f c] at h; cases h
theorem of_rd_f {M : MT} {i : Nat} (h : rd M i = false) : M 8 i = 0 := by
  by_cases c : M 8 i = 0
  · exact c
  · rw [rd_t c] at h; cases h
theorem isRedT_congr {r r' : Nat → Bool} {t : Tr} (h : ∀ i ∈ ino t, r i = r' i) : isRedT r t = isRedT r' t := by
  cases t with
  | leaf _ => rfl
  | branch n l rr => exact h n (List.mem_append_right _ List.mem_cons_self)
theorem RB_congr {r r' : Nat → Bool} : ∀ {t : Tr} {k : Nat}, (∀ i ∈ ino t, r i = r' i) → RB r t k → RB r' t k := by
  intro t
  induction t with
  | leaf _ => intro k _ h; exact h
  | branch n l rr hl hr =>
    intro k h e
    have hn := h n (List.mem_append_right _ List.mem_cons_self)
    have h1 : ∀ i ∈ ino l, r i = r' i := fun i hi => h i (List.mem_append_left _ hi)
    have h2 : ∀ i ∈ ino rr, r i = r' i := fun i hi => h i (List.mem_append_right _ (List.mem_cons_of_mem _ hi))
    rcases e with ⟨a, b, c, d, f⟩ | ⟨a, j, b, c, d⟩
    · exact Or.inl ⟨hn ▸ a, isRedT_congr h1 ▸ b, isRedT_congr h2 ▸ c, hl h1 d, hr h2 f⟩
    · exact Or.inr ⟨hn ▸ a, j, b, hl h1 c, hr h2 d⟩
def hdBlack (r : Nat → Bool) : Zc → Prop
  | [] => False
  | (_, p, _) :: _ => r p = false
def RBc (r : Nat → Bool) : Zc → Nat → Prop
  | [], _ => True
  | (_, p, s) :: cx, h => (r p = true ∧ isRedT r s = false ∧ RB r s h ∧ hdBlack r cx ∧ RBc r cx h) ∨ (r p = false ∧ RB r s h ∧ RBc r cx (h + 1))
theorem hdBlack_congr {r r' : Nat → Bool} {cx : Zc} (h : ∀ i ∈ cids cx, r i = r' i) (e : hdBlack r cx) : hdBlack r' cx := by
  cases cx with
  | nil => exact e
  | cons f cx => exact (h f.2.1 List.mem_cons_self).symm.trans e
theorem RBc_congr {r r' : Nat → Bool} : ∀ {cx : Zc} {h : Nat}, (∀ i ∈ cids cx, r i = r' i) → RBc r cx h → RBc r' cx h := by
  intro cx
  induction cx with
  | nil => intro h _ _; trivial
  | cons f cx ih =>
    intro h e q
    obtain ⟨b, p, s⟩ := f
    have hp := e p List.mem_cons_self
    have hs : ∀ i ∈ ino s, r i = r' i := fun i hi => e i (List.mem_cons_of_mem _ (List.mem_append_left _ hi))
    have hc : ∀ i ∈ cids cx, r i = r' i := fun i hi => e i (List.mem_cons_of_mem _ (List.mem_append_right _ hi))
    rcases q with ⟨a, b, c, d, f⟩ | ⟨a, b, c⟩
    · exact Or.inl ⟨hp ▸ a, isRedT_congr hs ▸ b, RB_congr hs c, hdBlack_congr hc d, ih hc f⟩
    · exact Or.inr ⟨hp ▸ a, RB_congr hs b, ih hc c⟩
theorem RB_plug {r : Nat → Bool} : ∀ {cx : Zc} {t : Tr} {h : Nat}, RB r t h → RBc r cx h → (isRedT r t = true → cx = [] ∨ hdBlack r cx) → ∃ k, RB r (plug t cx) k := by
  intro cx
  induction cx with
  | nil => intro t h e _ _; exact ⟨h, e⟩
  | cons f cx ih =>
    intro t h e q c
    obtain ⟨b, p, s⟩ := f
    rcases q with ⟨a1, a2, a3, a4, a5⟩ | ⟨a1, a2, a3⟩
    · have ht : isRedT r t = false := by
        cases ht : isRedT r t with
        | false => rfl
        | true =>
          rcases c ht with x | x
          · cases x
          · rw [show r p = false from x] at a1; cases a1
      cases b with
      | true => exact ih (t := .branch p t s) (Or.inl ⟨a1, ht, a2, e, a3⟩) a5 (fun _ => Or.inr a4)
      | false => exact ih (t := .branch p s t) (Or.inl ⟨a1, a2, ht, a3, e⟩) a5 (fun _ => Or.inr a4)
    · cases b with
      | true => exact ih (t := .branch p t s) (Or.inr ⟨a1, h, rfl, e, a2⟩) a3 (fun x => by rw [show isRedT r (.branch p t s) = r p from rfl, a1] at x; cases x)
      | false => exact ih (t := .branch p s t) (Or.inr ⟨a1, h, rfl, a2, e⟩) a3 (fun x => by rw [show isRedT r (.branch p s t) = r p from rfl, a1] at x; cases x)
def Zp (M : MT) (n : Nat) (cx : Zc) (L : List Nat) : Prop := ∃ a b h, EncZ M (.branch n a b) cx ∧ ino (plug (.branch n a b) cx) = L ∧ rd M n = true ∧ isRedT (rd M) a = false ∧ isRedT (rd M) b = false ∧ RB (rd M) a h ∧ RB (rd M) b h ∧ RBc (rd M) cx h
def Fin0 (M : MT) (L : List Nat) : Prop := ∃ T k, EncZ M T [] ∧ ino T = L ∧ RB (rd M) T k
def FinT (M : MT) (T : Tr) (L : List Nat) : Prop := EncZ M T [] ∧ ino T = L ∧ (∃ k, RB (rd M) T k) ∧ isRedT (rd M) T = false
def blk (M : MT) : MT := up2 M 8 (M 0 9).toNatClampNeg 0
theorem fin_blk {M : MT} {L : List Nat} (h : Fin0 M L) (hL : L ≠ []) (hd : L.Nodup) (hb : ∀ x ∈ L, x < 500) : (∃ T, FinT (blk M) T L) ∧ ∃ r, r < 500 ∧ M 0 9 = nI r := by
  obtain ⟨T, k, e, hi, B⟩ := h
  cases T with
  | leaf _ => exact absurd hi.symm hL
  | branch n l r =>
    have hn5 : n < 500 := hb n (hi ▸ List.mem_append_right _ List.mem_cons_self)
    have h9 : M 0 9 = nI n := e.2
    rw [← hi, ino_b] at hd
    have hl : ∀ x ∈ ino l, x ≠ n := fun x hx => (List.nodup_append.mp hd).2.2 x hx n List.mem_cons_self
    have hr : ∀ x ∈ ino r, x ≠ n := fun x hx c => (List.nodup_cons.mp (List.nodup_append.mp hd).2.1).1 (c ▸ hx)
    refine ⟨⟨.branch n l r, ?_⟩, n, hn5, h9⟩
    unfold blk
    rw [h9, nI_clamp (by omega)]
    have ho : ∀ x, x ≠ n → rd M x = rd (up2 M 8 n 0) x := fun x hx => by unfold rd; rw [up2_ne (by omega)]
    have hn : rd (up2 M 8 n 0) n = false := rd_f up2_at
    refine ⟨EncZ_congr (fun x => ⟨by rw [up2_ne (by omega)], by rw [up2_ne (by omega)], by rw [up2_ne (by omega)]⟩) (by rw [up2_ne (by omega)]) e, hi, ?_, hn⟩
    rcases B with ⟨-, -, -, c, d⟩ | ⟨-, j, -, c, d⟩
    · exact ⟨k + 1, Or.inr ⟨hn, k, rfl, RB_congr (fun x hx => ho x (hl x hx)) c, RB_congr (fun x hx => ho x (hr x hx)) d⟩⟩
    · exact ⟨j + 1, Or.inr ⟨hn, j, rfl, RB_congr (fun x hx => ho x (hl x hx)) c, RB_congr (fun x hx => ho x (hr x hx)) d⟩⟩
def recM (M : MT) (p u g : Nat) : MT := up2 (up2 (up2 M 8 p 0) 8 u 0) 8 g 1
def colM (M : MT) (p g : Nat) : MT := up2 (up2 M 8 p 0) 8 g 1
def turnM (M : MT) (n p g : Nat) : MT := if (M 5 p = nI n ↔ M 5 g = nI p) then riseM (colM M p g) p g else riseM (colM (riseM M n p) n g) n g
def RiseOK (L : List Nat) (M : MT) (n p : Nat) : Prop := n < 500 ∧ p < 500 ∧ n ≠ p ∧ M 7 n = nI p ∧ pt (M 5 n) ∧ pt (M 6 n) ∧ pt (M 7 p) ∧ n ∈ L ∧ p ∈ L ∧ ∃ T, EncZ M T [] ∧ ino T = L
def uncM (M : MT) (p g : Nat) : Int32 := if M 5 g = nI p then M 6 g else M 5 g
theorem pt_root {t : Tr} (h : ∀ x ∈ ino t, x < 500) : pt (rootOf t) := by
  rcases root_in (t := t) with c | ⟨m, hm, c⟩
  · exact Or.inl c
  · rw [c]; exact Or.inr (ix_nI (h m hm) (by decide))
theorem nroot {t : Tr} {p : Nat} (hp : p < 500) (hb : ∀ x ∈ ino t, x < 500) (h : p ∉ ino t) : ¬ rootOf t = nI p := by
  intro c
  rcases root_in (t := t) with e | ⟨m, hm, e⟩
  · exact nI_m1 (n := p) (by omega) (c.symm.trans e)
  · exact h (nI_inj (hb m hm) hp (e.symm.trans c) ▸ hm)
theorem riseOK {M : MT} {n p : Nat} {a b s : Tr} {cx : Zc} {d : Bool} (e : EncZ M (.branch n a b) ((d, p, s) :: cx)) (hd : (ino (.branch n a b) ++ cids ((d, p, s) :: cx)).Nodup) (hb : ∀ x ∈ ino (.branch n a b) ++ cids ((d, p, s) :: cx), x < 500) {L : List Nat} (hl : ino (plug (.branch n a b) ((d, p, s) :: cx)) = L) : RiseOK L M n p := by
  have hn5 : n < 500 := hb n (List.mem_append_left _ (List.mem_append_right _ List.mem_cons_self))
  have hp5 : p < 500 := hb p (List.mem_append_right _ List.mem_cons_self)
  have hnp : n ≠ p := (List.nodup_append.mp hd).2.2 n (List.mem_append_right _ List.mem_cons_self) p List.mem_cons_self
  have bA : ∀ x ∈ ino a, x < 500 := fun x h => hb x (List.mem_append_left _ (List.mem_append_left _ h))
  have bB : ∀ x ∈ ino b, x < 500 := fun x h => hb x (List.mem_append_left _ (List.mem_append_right _ (List.mem_cons_of_mem _ h)))
  have bC : ∀ x ∈ cids cx, x < 500 := fun x h => hb x (List.mem_append_right _ (List.mem_cons_of_mem _ (List.mem_append_right _ h)))
  have hin : ∀ x, x ∈ ino (.branch n a b) ++ cids ((d, p, s) :: cx) → x ∈ L := fun x hx => hl ▸ (plug_perm _ _).mem_iff.mpr hx
  refine ⟨hn5, hp5, hnp, ?_⟩
  have ez := EncZ_plug.mp e
  obtain ⟨⟨e1, e2, e3, -, -⟩, f⟩ := e
  refine ⟨e1, e2 ▸ pt_root bA, e3 ▸ pt_root bB, ?_, hin n (List.mem_append_left _ (List.mem_append_right _ List.mem_cons_self)), hin p (List.mem_append_right _ List.mem_cons_self), _, ez, hl⟩
  cases d with
  | true => exact f.1 ▸ pt_up bC
  | false => exact f.1 ▸ pt_up bC
theorem sep4 {A B S1 S2 C : List Nat} {n p g : Nat} (h : ((A ++ n :: B) ++ (p :: (S1 ++ (g :: (S2 ++ C))))).Nodup) : n ≠ p ∧ n ≠ g ∧ p ≠ g ∧ (∀ x, (x ∈ A ∨ x ∈ B ∨ x ∈ S1 ∨ x ∈ S2 ∨ x ∈ C) → x ≠ n ∧ x ≠ p ∧ x ≠ g) := by
  have hc := fun x => List.nodup_iff_count.mp h x
  simp only [List.count_append, List.count_cons] at hc
  refine ⟨?_, ?_, ?_, ?_⟩
  · intro c; have := hc n; rw [c] at this; simp at this; omega
  · intro c; have := hc n; rw [c] at this; simp at this; omega
  · intro c; have := hc p; rw [c] at this; simp at this; omega
  · intro x hx
    have q : 1 ≤ A.count x + B.count x + S1.count x + S2.count x + C.count x := by
      rcases hx with h | h | h | h | h <;> (have := List.count_pos_iff.mpr h; omega)
    have := hc x
    refine ⟨?_, ?_, ?_⟩
    · intro c; rw [← c] at this; simp at this; omega
    · intro c; rw [← c] at this; simp at this; omega
    · intro c; rw [← c] at this; simp at this; omega
