/-! ===== bits of a word ===== -/
def bA (w : Int32) (k : Nat) : Bool := w.toBitVec.getLsbD k
theorem bA_or {w v : Int32} {k : Nat} : bA (w ||| v) k = (bA w k || bA v k) := by
  unfold bA; rw [Int32.toBitVec_or, BitVec.getLsbD_or]
theorem bA_xor {w v : Int32} {k : Nat} : bA (w ^^^ v) k = (bA w k ^^ bA v k) := by
  unfold bA; rw [Int32.toBitVec_xor, BitVec.getLsbD_xor]
theorem bA_and {w v : Int32} {k : Nat} : bA (w &&& v) k = (bA w k && bA v k) := by
  unfold bA; rw [Int32.toBitVec_and, BitVec.getLsbD_and]
theorem bA_0 {k : Nat} : bA 0 k = false := by
  unfold bA; rw [show (0 : Int32).toBitVec = 0#32 from rfl]; simp
theorem bA_1 {k : Nat} : bA 1 k = decide (k = 0) := by
  unfold bA; rw [show (1 : Int32).toBitVec = 1#32 from rfl]; simp
theorem bA_m2 {k : Nat} (h : k < 32) : bA (-2) k = decide (k ≠ 0) := by
  have : ∀ k : Fin 32, bA (-2) k.val = decide (k.val ≠ 0) := by decide
  exact this ⟨k, h⟩
theorem bA_big {w : Int32} {k : Nat} (h : 32 ≤ k) : bA w k = false := by
  unfold bA; exact BitVec.getLsbD_of_ge _ _ h
theorem bA_ext {w v : Int32} (h : ∀ k, k < 32 → bA w k = bA v k) : w = v := by
  apply Int32.toBitVec_inj.mp
  exact BitVec.eq_of_getLsbD_eq h
theorem bA_one {w : Int32} : (w &&& 1) = 1 ↔ bA w 0 = true := by
  constructor
  · intro h
    have := congrArg (fun x => bA x 0) h
    simp only [bA_and, bA_1, decide_true, Bool.and_true] at this
    exact this
  · intro h
    refine bA_ext (fun k hk => ?_)
    rw [bA_and, bA_1]
    by_cases c : k = 0
    · subst c; rw [h]; rfl
    · rw [decide_eq_false c, Bool.and_false]
theorem bA_sr {w : Int32} {i : Nat} (h : i < 8) : bA (w >>> (nI i &&& 31)) 0 = bA w i := by
  have key : ∀ i : Fin 8, ((nI i.val &&& 31 : Int32).toBitVec.smod 32) = BitVec.ofNat 32 i.val := by decide
  unfold bA
  rw [Int32.toBitVec_shiftRight, key ⟨i, h⟩, BitVec.sshiftRight_eq', BitVec.getLsbD_sshiftRight]
  simp only [BitVec.toNat_ofNat]
  rw [Nat.mod_eq_of_lt (by omega), if_pos (by omega)]
  simp
theorem bA_sh {w : Int32} {i : Nat} (h : i < 8) : ((w >>> (nI i &&& 31)) &&& 1) = 1 ↔ bA w i = true := by
  rw [bA_one, bA_sr h]
theorem bA_bit {n k : Nat} (h : n < 8) : bA ((1 : Int32) <<< (nI n &&& 31)) k = decide (k = n) := by
  by_cases hk : k < 32
  · have key : ∀ n : Fin 8, ∀ k : Fin 32, bA ((1 : Int32) <<< (nI n.val &&& 31)) k.val = decide (k.val = n.val) := by decide
    exact key ⟨n, h⟩ ⟨k, hk⟩
  · rw [bA_big (by omega), decide_eq_false (by omega)]
theorem bA_sl {w : Int32} {k : Nat} (h : k < 32) : bA (w <<< ((1 : Int32) &&& 31)) k = (decide (k ≠ 0) && bA w (k - 1)) := by
  unfold bA
  rw [Int32.toBitVec_shiftLeft, show ((1 : Int32) &&& 31).toBitVec.smod 32 = 1#32 from by decide, BitVec.shiftLeft_eq', BitVec.getLsbD_shiftLeft, show (1#32).toNat = 1 from rfl, decide_eq_true h]
  by_cases c : k = 0
  · subst c; simp
  · rw [decide_eq_false (by omega), decide_eq_true c]; simp
theorem bA_us {w : Int32} {k : Nat} : bA (ushr w 1) k = bA w (k + 1) := by
  unfold bA ushr
  have e : ((w.toUInt32 >>> ((1 : Int32).toUInt32 &&& Int32.toUInt32 31)).toInt32).toBitVec = w.toBitVec >>> 1 := by
    show (w.toUInt32 >>> ((1 : Int32).toUInt32 &&& Int32.toUInt32 31)).toBitVec = _
    rw [UInt32.toBitVec_shiftRight, show (Int32.toUInt32 1 &&& Int32.toUInt32 31).toBitVec % 32 = 1#32 from by decide]
    rfl
  rw [e, BitVec.getLsbD_ushiftRight, Nat.add_comm]
/-- a stack of truth values in a word -/
def Sk (w : Int32) (l : List Bool) : Prop := ∀ k (h : k < l.length), bA w k = l[k]
theorem Sk_nil : Sk 0 [] := fun k h => absurd h (Nat.not_lt_zero _)
theorem Sk_hd {w : Int32} {b : Bool} {l : List Bool} (h : Sk w (b :: l)) : ((w &&& 1) = 1 ↔ b = true) := by
  rw [bA_one, h 0 (Nat.zero_lt_succ _)]; rfl
def bi (b : Bool) : Int32 := if b then 1 else 0
theorem bi_b01 {b : Bool} : b01 (bi b) := by cases b; exact Or.inl rfl; exact Or.inr rfl
theorem bA_bi {b : Bool} {k : Nat} : bA (bi b) k = (b && decide (k = 0)) := by cases b; exact bA_0; exact bA_1
theorem Sk_push {w : Int32} {b : Bool} {l : List Bool} (h : Sk w l) (hl : l.length < 32) : Sk ((w <<< ((1 : Int32) &&& 31)) ||| bi b) (b :: l) := by
  intro k hk
  rw [List.length_cons] at hk
  rw [bA_or, bA_sl (by omega), bA_bi]
  cases k with
  | zero => simp
  | succ k => simp; exact h k (by omega)
theorem Sk_not {w : Int32} {b : Bool} {l : List Bool} (h : Sk w (b :: l)) : Sk (w ^^^ 1) ((!b) :: l) := by
  intro k hk
  have := h k hk
  rw [bA_xor, bA_1, this]
  cases k with
  | zero => simp
  | succ k => simp
theorem Sk_tl {w : Int32} {b : Bool} {l : List Bool} (h : Sk w (b :: l)) : Sk (ushr w 1) l := by
  intro k hk
  rw [bA_us]; exact h (k + 1) (Nat.succ_lt_succ hk)
theorem Sk_len {w : Int32} {l : List Bool} (h : Sk w l) : ∀ k (hk : k < l.length), l[k] = true → k < 32 := by
  intro k hk e
  by_cases c : k < 32
  · exact c
  · have := h k hk; rw [bA_big (by omega), e] at this; cases this
theorem Sk_and {w : Int32} {a b : Bool} {l : List Bool} (h : Sk w (b :: a :: l)) (hl : l.length < 31) : Sk (if (w &&& 1) = 1 then ushr w 1 else (ushr w 1) &&& -2) ((a && b) :: l) := by
  have ht := Sk_tl h
  have hh := Sk_hd h
  cases b with
  | true => rw [if_pos (hh.mpr rfl), Bool.and_true]; exact ht
  | false =>
    rw [if_neg (fun c => by cases hh.mp c), Bool.and_false]
    intro k hk
    have hk' := hk
    rw [List.length_cons] at hk'
    rw [bA_and, ht k (by simpa using hk), bA_m2 (by omega)]
    cases k with
    | zero => simp
    | succ k => simp
theorem Sk_or {w : Int32} {a b : Bool} {l : List Bool} (h : Sk w (b :: a :: l)) : Sk (if (w &&& 1) = 1 then (ushr w 1) ||| 1 else ushr w 1) ((a || b) :: l) := by
  have ht := Sk_tl h
  have hh := Sk_hd h
  cases b with
  | false => rw [if_neg (fun c => by cases hh.mp c), Bool.or_false]; exact ht
  | true =>
    rw [if_pos (hh.mpr rfl), Bool.or_true]
    intro k hk
    rw [bA_or, ht k (by simpa using hk), bA_1]
    cases k with
    | zero => simp
    | succ k => simp
