/-! ===== what stays when other cells change ===== -/
def Keep (H H' : AHp) (A : Nat → Prop) : Prop := hsz H ≤ hsz H' ∧ ∀ a, a < hsz H → hk H' a = hk H a ∧ hLen H' a = hLen H a ∧ (¬ A a → hI H' a = hI H a ∧ hP H' a = hP H a ∧ hJ H' a = hJ H a)
section KEEP
variable {H H' H'' : AHp} {A B : Nat → Prop} {c t b m o : Nat} {na : Nat → Nat} {K M : MT} {T : Tr} {N : Nat} {W : Int}
theorem Fr.keep (f : Fr H H' A) : Keep H H' A := ⟨by rw [f.1]; exact Nat.le_refl _, fun a _ => ⟨by rw [f.2.2.1], by rw [f.2.2.2.1], fun h => f.2.2.2.2 a h⟩⟩
theorem InsF.keep (f : InsF H H' A) : Keep H H' A := ⟨by rw [f.1]; exact Nat.le_succ _, f.2.2⟩
theorem gr_keep {s u : Nat} (hs : hsz H ≤ s) : Keep H (gr H s u) A := ⟨hs, fun a ha => ⟨if_pos ha, rfl, fun _ => ⟨rfl, rfl, rfl⟩⟩⟩
theorem sJ_keep {v : Int64} {k : Nat} : Keep H (sJ H o k v) (fun a => a = o) := ⟨Nat.le_refl _, fun a _ => ⟨rfl, rfl, fun h => ⟨rfl, rfl, up2_off _ h⟩⟩⟩
theorem Keep.trans (k1 : Keep H H' A) (k2 : Keep H' H'' A) : Keep H H'' A := by
  refine ⟨Nat.le_trans k1.1 k2.1, fun a ha => ?_⟩
  have h1 := k1.2 a ha
  have h2 := k2.2 a (Nat.lt_of_lt_of_le ha k1.1)
  refine ⟨h2.1.trans h1.1, h2.2.1.trans h1.2.1, fun q => ?_⟩
  have e1 := h1.2.2 q
  have e2 := h2.2.2 q
  exact ⟨e2.1.trans e1.1, e2.2.1.trans e1.2.1, e2.2.2.trans e1.2.2⟩
theorem Keep.mono (k : Keep H H' A) (h : ∀ a, A a → B a) : Keep H H' B := ⟨k.1, fun a ha => ⟨(k.2 a ha).1, (k.2 a ha).2.1, fun q => (k.2 a ha).2.2 (fun z => q (h a z))⟩⟩
theorem CV.keep {D : Nat → Prop} {g0 : AHp} (V : CV g0 H t b na D K) (k : Keep H H' A) (hA : ∀ a, A a → ¬ own t na D a) : CV H' H' t b na D K := by
  obtain ⟨⟨a1, a2, a3, a4, a5, a6⟩, v2, v3, v4, v5, v6⟩ := V
  have kt := k.2 t a2
  have ct := kt.2.2 (fun q => hA t q (Or.inl rfl))
  have kb := k.2 b a6
  refine ⟨⟨kt.1.trans a1, Nat.lt_of_lt_of_le a2 k.1, by rw [ct.2.1]; exact a3, kb.1.trans a4, kb.2.1.trans a5, Nat.lt_of_lt_of_le a6 k.1⟩, fun j hj => ?_, fun q h1 h2 => by rw [ct.2.1]; exact v3 q h1 h2, fun q h1 h2 => by rw [ct.1]; exact v4 q h1 h2, v5, Fr.refl⟩
  obtain ⟨n1, n2, n3, n4, n5, n6⟩ := v2 j hj
  have kj := k.2 (na j) n2
  have cj := kj.2.2 (fun q => hA _ q (Or.inr ⟨j, hj, rfl⟩))
  exact ⟨n1, Nat.lt_of_lt_of_le n2 k.1, kj.1.trans n3, by rw [cj.1]; exact n4, fun q hq => by rw [cj.1]; exact n5 q hq, fun q hq => by rw [cj.2.1]; exact n6 q hq⟩
theorem RO.keep (O : RO H c t b na K T N W) (hcz : c < hsz H) (k : Keep H H' A) (hc : ¬ A c) (hb : ¬ A b) (hA : ∀ a, A a → ¬ own t na (fun i => i ∈ ino T) a) : RO H' c t b na K T N W := by
  have kc := k.2 c hcz
  have cb := (k.2 b O.2.1.1.2.2.2.2.2).2.2 hb
  refine ⟨⟨kc.1.trans O.1.1, by rw [(kc.2.2 hc).2.1]; exact O.1.2⟩, O.2.1.keep k hA, O.2.2.1, O.2.2.2.1, fun i hi => ?_, O.2.2.2.2.2⟩
  rw [cb.2.1]; exact O.2.2.2.2.1 i hi
theorem RefAt.keep (r : RefAt H m M) (k : Keep H H' A) (h : ∀ a, A a → ¬ inR m a) : RefAt H' m M := by
  refine ⟨Nat.le_trans r.1 k.1, fun a ha => ?_⟩
  have q := r.2 a ha
  have kk := k.2 (a + m) (by have := r.1; omega)
  have cc := kk.2.2 (fun z => h _ z ⟨by omega, by omega⟩)
  exact ⟨kk.1.trans q.1, kk.2.1.trans q.2.1, fun j => by rw [cc.1]; exact q.2.2.1 j, fun j => by rw [cc.2.1]; exact q.2.2.2.1 j, fun j => by rw [cc.2.2]; exact q.2.2.2.2 j⟩
theorem RefAt.mix {Kc : MT} (r : RefAt H m M) : RefAt H m (mixM M Kc) := ⟨r.1, fun a ha => by
  have q := r.2 a ha
  exact ⟨q.1, q.2.1, fun j => by rw [mixM_lo ha]; exact q.2.2.1 j, q.2.2.2.1, q.2.2.2.2⟩⟩
/-- kinds of the reference's cells -/
theorem RefAt.kind (r : RefAt H m M) {a : Nat} (h : inR m a) : hk H a = 7 ∨ hk H a = 8 ∨ hk H a = 9 := by
  obtain ⟨i, hi, e⟩ : ∃ i, i < 36 ∧ a = i + m := ⟨a - m, by have := h.1; have := h.2; omega, by have := h.1; omega⟩
  have q := (r.2 i hi).1
  rw [e, q]
  have : ∀ i : Fin 36, kM i.val = 7 ∨ kM i.val = 8 ∨ kM i.val = 9 := by decide
  exact this ⟨i, hi⟩
theorem RO.notR (O : RO H c t b na K T N W) (r : RefAt H m M) : ¬ inR m c ∧ ¬ inR m b ∧ ∀ a, inR m a → ¬ own t na (fun i => i ∈ ino T) a := by
  refine ⟨fun h => ?_, fun h => ?_, fun a h q => ?_⟩
  · rcases r.kind h with e | e | e <;> rw [O.1.1] at e <;> cases e
  · rcases r.kind h with e | e | e <;> rw [O.2.1.1.2.2.2.1] at e <;> cases e
  · rcases q with q | ⟨i, hi, q⟩
    · rw [q] at h; rcases r.kind h with e | e | e <;> rw [O.2.1.kt] at e <;> cases e
    · rw [q] at h; rcases r.kind h with e | e | e <;> rw [O.2.1.kn hi] at e <;> cases e
theorem RO.notO (O : RO H c t b na K T N W) (ho : hk H o = 13) : o ≠ c ∧ o ≠ b ∧ ¬ own t na (fun i => i ∈ ino T) o := by
  refine ⟨fun e => ?_, fun e => ?_, fun q => ?_⟩
  · rw [e, O.1.1] at ho; cases ho
  · rw [e, O.2.1.1.2.2.2.1] at ho; cases ho
  · rcases q with q | ⟨i, hi, q⟩
    · rw [q, O.2.1.kt] at ho; cases ho
    · rw [q, O.2.1.kn hi] at ho; cases ho
/-- the digest table, and where it lies -/
def TabA (H : AHp) (c m : Nat) : Prop := ∃ a, hP H c 0 = some a ∧ a < hsz H ∧ ¬ inR m a ∧ hk H a = 8 ∧ hLen H a = 256 ∧ ∀ i, i < 256 → hI H a i = crcN 8 (nI i)
theorem TabA.tab (h : TabA H c m) : Tab H c := by obtain ⟨a, h1, -, -, h2, h3, h4⟩ := h; exact ⟨a, h1, h2, h3, h4⟩
theorem TabA.keep (h : TabA H c m) (hcz : c < hsz H) (k : Keep H H' A) (hc : ¬ A c) (hA : ∀ a, A a → ¬ inR m a → hk H a ≠ 8) : TabA H' c m := by
  obtain ⟨a, h1, hz, hr, h2, h3, h4⟩ := h
  have ka := k.2 a hz
  have ca := ka.2.2 (fun q => hA a q hr h2)
  exact ⟨a, by rw [((k.2 c hcz).2.2 hc).2.1]; exact h1, Nat.lt_of_lt_of_le hz k.1, hr, ka.1.trans h2, ka.2.1.trans h3, fun i hi => by rw [ca.1]; exact h4 i hi⟩
/-- the script and the cell that takes an answer -/
def ScA (H : AHp) (sc L : Nat) (xs : Nat → Int32) : Prop := sc < hsz H ∧ hk H sc = 14 ∧ hLen H sc = L ∧ ∀ k, hI H sc k = xs k
def OuA (H : AHp) (o : Nat) : Prop := o < hsz H ∧ hk H o = 13 ∧ hLen H o = 1
theorem ScA.keep {sc L : Nat} {xs : Nat → Int32} (h : ScA H sc L xs) (k : Keep H H' A) (hA : ¬ A sc) : ScA H' sc L xs := by
  obtain ⟨h1, h2, h3, h4⟩ := h
  have kk := k.2 sc h1
  exact ⟨Nat.lt_of_lt_of_le h1 k.1, kk.1.trans h2, kk.2.1.trans h3, fun i => by rw [(kk.2.2 hA).1]; exact h4 i⟩
theorem OuA.keep (h : OuA H o) (k : Keep H H' A) : OuA H' o := by
  obtain ⟨h1, h2, h3⟩ := h
  have kk := k.2 o h1
  exact ⟨Nat.lt_of_lt_of_le h1 k.1, kk.1.trans h2, kk.2.1.trans h3⟩
end KEEP
