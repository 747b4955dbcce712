/-! ===== what lies outside the tree doesn't matter to the mending ===== -/
def eqL (L : List Nat) (A B : MT) : Prop := A 0 9 = B 0 9 ∧ ∀ r i, (r = 5 ∨ r = 6 ∨ r = 7 ∨ r = 8) → i ∈ L → A r i = B r i
section EQL
variable {L : List Nat} {A B : MT}
theorem eqL.up (h : eqL L A B) {a k : Nat} {v : Int32} : eqL L (up2 A a k v) (up2 B a k v) := by
  refine ⟨?_, fun r i hr hi => ?_⟩
  · unfold up2; split
    · rfl
    · exact h.1
  · unfold up2; split
    · rfl
    · exact h.2 r i hr hi
theorem eqL.hang (hb : ∀ x ∈ L, x < 500) (h : eqL L A B) {u w : Int32} {n : Nat} (hu : pd (· ∈ L) u) : eqL L (hangM A u w n) (hangM B u w n) := by
  unfold hangM
  rcases hu with rfl | ⟨j, hj, rfl⟩
  · rw [if_pos rfl, if_pos rfl]; exact h.up.up
  · have := hb j hj
    rw [if_neg (nI_m1 (by omega)), if_neg (nI_m1 (by omega)), nI_clamp (by omega), h.2 5 j (by omega) hj]
    split
    · exact h.up.up
    · exact h.up.up
theorem eqL.rise (hb : ∀ x ∈ L, x < 500) (h : eqL L A B) {n p : Nat} (hn : n ∈ L) (hp : p ∈ L) (h7 : pd (· ∈ L) (A 7 p)) : eqL L (riseM A n p) (riseM B n p) := by
  have hS : ∀ a b, (b = 5 ∨ b = 6) → eqL L (riseS A a b n p) (riseS B a b n p) := by
    intro a b hab
    unfold riseS
    rw [h.2 b n (by omega) hn] at *
    have e7 := h.2 7 p (by omega) hp
    rw [← e7]
    refine eqL.up (eqL.hang hb (eqL.up ?_) h7)
    split
    · exact h.up
    · exact h.up.up
  unfold riseM
  rw [h.2 5 p (by omega) hp]
  split
  · exact hS 5 6 (Or.inr rfl)
  · exact hS 6 5 (Or.inl rfl)
theorem eqL.blk (h : eqL L A B) : eqL L (blk A) (blk B) := by
  unfold _root_.Jvm.Pilot.CIntervalTreeLaw_law_r9763_99fb55.blk
  rw [h.1]; exact h.up
theorem RiseOK.pd7 {M : MT} {n p : Nat} (R : RiseOK L M n p) : n ∈ L ∧ p ∈ L ∧ pd (· ∈ L) (M 7 p) := by
  obtain ⟨h1, h2, h3, h4, h5, h6, h7, h8, h9, T, e, hi⟩ := R
  refine ⟨h8, h9, ?_⟩
  have := Enc_ptr e.1 p (by rw [hi]; exact h9)
  rw [hi] at this
  exact this.2.2.elim (fun e => Or.inl (e.trans rfl)) (fun e => e)
theorem eqL.turn (hb : ∀ x ∈ L, x < 500) (h : eqL L A B) {n p g : Nat} (hp : p ∈ L) (hg : g ∈ L) (R : if (A 5 p = nI n ↔ A 5 g = nI p) then RiseOK L (colM A p g) p g else RiseOK L A n p ∧ RiseOK L (colM (riseM A n p) n g) n g) : eqL L (turnM A n p g) (turnM B n p g) := by
  unfold turnM
  rw [← h.2 5 p (by omega) hp, ← h.2 5 g (by omega) hg]
  by_cases c : (A 5 p = nI n ↔ A 5 g = nI p)
  · rw [if_pos c] at R
    rw [if_pos c, if_pos c]
    exact eqL.rise hb h.up.up R.pd7.1 R.pd7.2.1 R.pd7.2.2
  · rw [if_neg c] at R
    rw [if_neg c, if_neg c]
    exact eqL.rise hb (h.rise hb R.1.pd7.1 R.1.pd7.2.1 R.1.pd7.2.2).up.up R.2.pd7.1 R.2.pd7.2.1 R.2.pd7.2.2
theorem Zp_ptr {n : Nat} {cx : Zc} (Z : Zp A n cx L) : n ∈ L ∧ ∀ i ∈ L, pd (· ∈ L) (A 5 i) ∧ pd (· ∈ L) (A 6 i) ∧ pd (· ∈ L) (A 7 i) := by
  obtain ⟨a, b, h, e, hl, -⟩ := Z
  have ez := EncZ_plug.mp e
  refine ⟨hl ▸ (plug_perm _ _).mem_iff.mpr (List.mem_append_left _ (List.mem_append_right _ List.mem_cons_self)), fun i hi => ?_⟩
  have := Enc_ptr ez.1 i (by rw [hl]; exact hi)
  rw [hl] at this
  exact ⟨this.1, this.2.1, this.2.2.elim (fun e => Or.inl (e.trans rfl)) (fun e => e)⟩
theorem pd_in {x : Int32} {p : Nat} (hb : ∀ x ∈ L, x < 500) (h : pd (· ∈ L) x) (hp : p < 500) (e : x = nI p) : p ∈ L := by
  rcases h with c | ⟨j, hj, c⟩
  · exact (nI_m1 (n := p) (by omega) (e.symm.trans c)).elim
  · rw [nI_inj hp (hb j hj) (e.symm.trans c)]; exact hj
theorem eqL.mend (hd : L.Nodup) (hb : ∀ x ∈ L, x < 500) : ∀ {f : Nat} {A B : MT} {n : Nat} {cx : Zc}, Zp A n cx L → cx.length < f → eqL L A B → eqL L (mendM f A n) (mendM f B n) := by
  intro f
  induction f with
  | zero => intro A B n cx _ h _; omega
  | succ f ih =>
    intro A B n cx Z hf h
    obtain ⟨hn, hp⟩ := Zp_ptr Z
    have e7n := h.2 7 n (by omega) hn
    rcases mend_cases Z hd hb with ⟨a, -⟩ | ⟨p, hp5, a, h8, -⟩ | ⟨p, g, u, cx', hp5, hg5, hu5, a, h8, h7, hun, hu8, hc, Z'⟩ | ⟨p, g, hp5, hg5, a, h8, h7, hun, R, -⟩
    · rw [mendM_A a, mendM_A (e7n.symm.trans a)]; exact h.blk
    · have pL := pd_in hb (hp n hn).2.2 hp5 a
      rw [mendM_B hp5 a h8, mendM_B hp5 (e7n.symm.trans a) ((h.2 8 p (by omega) pL).symm.trans h8)]; exact h.blk
    · have pL := pd_in hb (hp n hn).2.2 hp5 a
      have gL := pd_in hb (hp p pL).2.2 hg5 h7
      have e5 := h.2 5 g (by omega) gL
      have e6 := h.2 6 g (by omega) gL
      have eu : uncM B p g = uncM A p g := by unfold uncM; rw [e5, e6]
      have uL : u ∈ L := by
        unfold uncM at hun
        split at hun
        · exact pd_in hb (hp g gL).2.1 hu5 hun
        · exact pd_in hb (hp g gL).1 hu5 hun
      rw [mendM_C hp5 hg5 hu5 a h8 h7 hun hu8, mendM_C hp5 hg5 hu5 (e7n.symm.trans a) (by rw [← h.2 8 p (by omega) pL]; exact h8) ((h.2 7 p (by omega) pL).symm.trans h7) (eu.trans hun) (by rw [← h.2 8 u (by omega) uL]; exact hu8)]
      exact ih Z' (by omega) h.up.up.up
    · have pL := pd_in hb (hp n hn).2.2 hp5 a
      have gL := pd_in hb (hp p pL).2.2 hg5 h7
      have e5 := h.2 5 g (by omega) gL
      have e6 := h.2 6 g (by omega) gL
      have eu : uncM B p g = uncM A p g := by unfold uncM; rw [e5, e6]
      have hun' : uncM B p g = -1 ∨ ∃ u, u < 500 ∧ uncM B p g = nI u ∧ B 8 u = 0 := by
        rw [eu]
        rcases hun with q | ⟨u, hu, q, q8⟩
        · exact Or.inl q
        · have uL : u ∈ L := by
            unfold uncM at q
            split at q
            · exact pd_in hb (hp g gL).2.1 hu q
            · exact pd_in hb (hp g gL).1 hu q
          exact Or.inr ⟨u, hu, q, by rw [← h.2 8 u (by omega) uL]; exact q8⟩
      rw [mendM_D hp5 hg5 a h8 h7 hun, mendM_D hp5 hg5 (e7n.symm.trans a) (by rw [← h.2 8 p (by omega) pL]; exact h8) ((h.2 7 p (by omega) pL).symm.trans h7) hun']
      exact (h.turn hb pL gL R).blk
end EQL
/-- both memories after an insertion agree where the tree is -/
theorem ins_agree {K1 M' : MT} {T : Tr} {N : Nat} {W : Int} {l h w : Int32} (I : TI K1 T N W) (hN5 : N < 500) (h1 : ∀ r i, 1 ≤ r → r ≤ 4 → M' r i = K1 r i) (h2 : ∀ r i, 5 ≤ r → r ≤ 8 → i ∈ ino T → M' r i = K1 r i) (h0 : ∀ i, (i = 9 ∨ i = 10 ∨ i = 11 ∨ i = 13 ∨ i = 14 ∨ i = 15) → M' 0 i = K1 0 i) :
    inC M' T N l h w = inC K1 T N l h w ∧ (∀ r i, 1 ≤ r → r ≤ 8 → i ∈ inL K1 T N l h w → insM M' T N l h w r i = insM K1 T N l h w r i) ∧ (∀ i, (i = 9 ∨ i = 10 ∨ i = 11 ∨ i = 13 ∨ i = 14 ∨ i = 15) → insM M' T N l h w 0 i = insM K1 T N l h w 0 i) := by
  have hi1 : ∀ r i, 1 ≤ r → r ≤ 4 → in1 M' N l h w r i = in1 K1 N l h w r i := fun r i a b => by
    unfold in1; unfold up2
    split
    · rfl
    · split
      · rfl
      · split
        · rfl
        · split
          · rfl
          · exact h1 r i a b
  have hc : inC M' T N l h w = inC K1 T N l h w := down_cong (fun i => ⟨hi1 1 i (by decide) (by decide), hi1 2 i (by decide) (by decide)⟩) T []
  obtain ⟨Z, hL, hs, hnd, hb⟩ := ins_zp I hN5 l h w
  have hlen := ins_len I (l := l) (h := h) (w := w)
  have hinL : ∀ i, i ∈ inL K1 T N l h w → i = N ∨ i ∈ ino T := fun i hi => by
    unfold inL at hi; rw [hL]
    rcases List.mem_append.mp hi with q | q
    · exact Or.inr (List.mem_append_left _ q)
    · rcases List.mem_cons.mp q with q | q
      · exact Or.inl q
      · exact Or.inr (List.mem_append_right _ q)
  have eS : ∀ u, eqL (inL K1 T N l h w) (seat (in1 K1 N l h w) N u) (seat (in1 M' N l h w) N u) := fun u => by
    refine ⟨?_, fun r i hr hi => ?_⟩
    · rw [seat_ne (by omega), seat_ne (by omega), in1_ne (by omega), in1_ne (by omega), h0 9 (by omega)]
    · by_cases c : i = N
      · subst c
        rcases hr with rfl | rfl | rfl | rfl
        · rw [seat_5, seat_5]
        · rw [seat_6, seat_6]
        · rw [seat_7, seat_7]
        · rw [seat_8, seat_8]
      · have hT := (hinL i hi).resolve_left c
        rw [seat_ne (Or.inl c), seat_ne (Or.inl c), in1_ne (Or.inl c), in1_ne (Or.inl c), h2 r i (by omega) (by omega) hT]
  have eH : eqL (inL K1 T N l h w) (hnM (in1 K1 N l h w) N (inC K1 T N l h w)) (hnM (in1 M' N l h w) N (inC K1 T N l h w)) := by
    cases inC K1 T N l h w with
    | nil => exact (eS _).up
    | cons f cx =>
      obtain ⟨bb, p, s⟩ := f
      cases bb with
      | true => exact (eS _).up
      | false => exact (eS _).up
  have eM := eqL.mend hnd hb Z hlen eH
  refine ⟨hc, fun r i a b hi => ?_, fun i hi => ?_⟩
  · by_cases c : r ≤ 4
    · rw [insM_o ⟨by omega, by omega, by omega, by omega, by omega⟩ (by omega), insM_o ⟨by omega, by omega, by omega, by omega, by omega⟩ (by omega)]; exact hi1 r i a c
    · unfold insM
      rw [hc, up2_ne (by omega), up2_ne (by omega), up2_ne (by omega), up2_ne (by omega)]
      exact (eM.2 r i (by omega) hi).symm
  · rcases hi with rfl | rfl | rfl | rfl | rfl | rfl
    · unfold insM
      rw [hc, up2_ne (by omega), up2_ne (by omega), up2_ne (by omega), up2_ne (by omega)]
      exact eM.1.symm
    · unfold insM; rw [up2_at, up2_at]
    · unfold insM; rw [up2_ne (by omega), up2_at, up2_ne (by omega), up2_at, h0 11 (by omega)]
    · rw [insM_o ⟨by omega, by omega, by omega, by omega, by omega⟩ (by omega), insM_o ⟨by omega, by omega, by omega, by omega, by omega⟩ (by omega), in1_ne (by omega), in1_ne (by omega), h0 13 (by omega)]
    · rw [insM_o ⟨by omega, by omega, by omega, by omega, by omega⟩ (by omega), insM_o ⟨by omega, by omega, by omega, by omega, by omega⟩ (by omega), in1_ne (by omega), in1_ne (by omega), h0 14 (by omega)]
    · rw [insM_o ⟨by omega, by omega, by omega, by omega, by omega⟩ (by omega), insM_o ⟨by omega, by omega, by omega, by omega, by omega⟩ (by omega), in1_ne (by omega), in1_ne (by omega), h0 15 (by omega)]
