section MAIN
variable {G : GT} {lim : Nat × Nat} {l : Launch} {d j : Nat} {p : Program} {e : Env} {s : State} {m : MethodId} {args : Array Value} {below : List Frame} {meth : Method} {c : Code} {Rm : Room} {h0 : AHp}
variable {H : Heap} {locs : List Loc} {cells slots : Nat} {lsA : Array Slot} {ls : List (Option AV)} {st : List AV} {h : AHp} {R : RT} {X : XT} {pc : Nat}
abbrev KS (G : GT) (lim : Nat × Nat) (l : Launch) (d j : Nat) (R : RT) (X : XT) : KT := fun pc ls st h => Snd G lim l d j pc ls st h R X
abbrev EX (G : GT) (lim : Nat × Nat) (l : Launch) (d j : Nat) (R : RT) (X : XT) (pc : Nat) (i : Ins) (ls : List (Option AV)) (st : List AV) (h : AHp) : Prop := exec (callZ (Snd G lim l) d) (KS G lim l d j R X) R X lim (hndj j pc) i ls st h
set_option maxHeartbeats 4000000 in
theorem ss_get (C : Cx G lim d j p s m args meth c Rm h0) (A : At0 G lim j h0 h H locs cells slots lsA ls) (hv : valid j) {k len a b : Nat} (hd : decode (mby j) pc = .ok (.getfield k, len)) (hlen : len = 3) (ha : a < 8) (hb : b < nfs.getD a 0) (hl : (mown j, k, a, b) ∈ flX)
    (hf : EX G lim l d j R X pc (if ft a b = 0 then 6 else 7, a, b, pc + 3, 0, []) ls st h) : TG G lim l j p e s m args below meth c Rm H locs cells slots R X pc lsA (st.map toV) := by
  subst hlen
  by_cases h0 : ft a b = 0
  · rw [if_pos h0] at hf
    have hf : x_getI (KS G lim l d j R X) (6, a, b, pc + 3, 0, []) ls st h := hf
    rcases st with _ | ⟨x | (_ | x) | x, r⟩
    · exact hf.elim
    · exact hf.elim
    · exact hf.elim
    · obtain ⟨e1, hg⟩ : hk h x = a ∧ Snd G lim l d j (pc + 3) ls (vi (hI h x b) :: r) h R X := hf
      subst e1
      exact sn_get C A ha hb (C.ts _ (w_fl hv.own ha hl)) hd (by rw [fv_num h0]; exact hg)
    · exact hf.elim
  · rw [if_neg h0] at hf
    have hf : x_getP (KS G lim l d j R X) (7, a, b, pc + 3, 0, []) ls st h := hf
    have ht := ty_at ha hb
    unfold chkTy at ht
    rw [if_neg h0, Bool.and_eq_true] at ht
    have h1 : ft a b = 1 := of_decide_eq_true ht.1
    rcases st with _ | ⟨x | (_ | x) | x, r⟩
    · exact hf.elim
    · exact hf.elim
    · exact hf.elim
    · obtain ⟨e1, hg⟩ : hk h x = a ∧ Snd G lim l d j (pc + 3) ls (vr (hP h x b) :: r) h R X := hf
      subst e1
      exact sn_get C A ha hb (C.ts _ (w_fl hv.own ha hl)) hd (by rw [fv_ref h1]; exact hg)
    · exact hf.elim
set_option maxHeartbeats 4000000 in
theorem ss_put (C : Cx G lim d j p s m args meth c Rm h0) (A : At0 G lim j h0 h H locs cells slots lsA ls) (hv : valid j) {k len a b : Nat} (hd : decode (mby j) pc = .ok (.putfield k, len)) (hlen : len = 3) (ha : a < 8) (hb : b < nfs.getD a 0) (hl : (mown j, k, a, b) ∈ flX) (hfin : (TT a b).2.2.2 = true → iij j = true ∧ mown j = a)
    (hf : EX G lim l d j R X pc (if ft a b = 0 then (if isZ a b = true then 9 else 8) else 10, a, b, pc + 3, 0, []) ls st h) : TG G lim l j p e s m args below meth c Rm H locs cells slots R X pc lsA (st.map toV) := by
  subst hlen
  by_cases h0 : ft a b = 0
  · rw [if_pos h0] at hf
    by_cases hz : isZ a b = true
    · rw [if_pos hz] at hf
      have hf : x_putZ (KS G lim l d j R X) (9, a, b, pc + 3, 0, []) ls st h := hf
      rcases st with _ | ⟨v | o | v, _ | ⟨x | (_ | x) | x, r⟩⟩
      all_goals try exact hf.elim
      obtain ⟨e1, hb01, hg⟩ : hk h x = a ∧ b01 v ∧ Snd G lim l d j (pc + 3) ls r (sI h x b v) R X := hf
      subst e1
      exact sn_putI C A ha hb (C.ts _ (w_fl hv.own ha hl)) hd hfin h0 (fun _ => hb01) hg
    · rw [if_neg hz] at hf
      have hf : x_putI (KS G lim l d j R X) (8, a, b, pc + 3, 0, []) ls st h := hf
      rcases st with _ | ⟨v | o | v, _ | ⟨x | (_ | x) | x, r⟩⟩
      all_goals try exact hf.elim
      obtain ⟨e1, hg⟩ : hk h x = a ∧ Snd G lim l d j (pc + 3) ls r (sI h x b v) R X := hf
      subst e1
      exact sn_putI C A ha hb (C.ts _ (w_fl hv.own ha hl)) hd hfin h0 (fun q => absurd q hz) hg
  · rw [if_neg h0] at hf
    have hf : x_putP (KS G lim l d j R X) (10, a, b, pc + 3, 0, []) ls st h := hf
    rcases st with _ | ⟨v | o | v, _ | ⟨x | (_ | x) | x, r⟩⟩
    all_goals try exact hf.elim
    obtain ⟨e1, hg⟩ : hk h x = a ∧ Snd G lim l d j (pc + 3) ls r (sP h x b o) R X := hf
    subst e1
    exact sn_putP C A ha hb (C.ts _ (w_fl hv.own ha hl)) hd hfin h0 hg
set_option maxHeartbeats 4000000 in
theorem ss_calls (C : Cx G lim d j p s m args meth c Rm h0) (A : At0 G lim j h0 h H locs cells slots lsA ls) (hv : valid j) {k jj : Nat} (hd : decode (mby j) pc = .ok (.invokestatic k, 3)) (hj : jj < 274) (ho : mown jj < 9) (hl : (mown j, k, jj) ∈ mlX) (hst : jj ∈ stX)
    (hf : EX G lim l d j R X pc (32, jj, mNp.getD jj 0, pc + 3, (mRc.getD jj 0 : Nat), []) ls st h) : TG G lim l j p e s m args below meth c Rm H locs cells slots R X pc lsA (st.map toV) := by
  have hf : x_calls (callZ (Snd G lim l) d) (KS G lim l d j R X) X (hndj j pc) (32, jj, mNp.getD jj 0, pc + 3, (mRc.getD jj 0 : Nat), []) ls st h := hf
  obtain ⟨bs, r, rfl, e2, e3, e4⟩ := pN_spec hf
  obtain ⟨e5, e6⟩ := sh_spec e4
  rw [List.append_nil] at e6
  have := sn_calls (e := e) (below := below) (i := (32, jj, mNp.getD jj 0, pc + 3, (mRc.getD jj 0 : Nat), [])) (as := bs.reverse) hv.rng C A hv.own hv.tab hj ho hl hst (by rw [List.length_reverse]; exact e2) rfl rfl hd e5 (fun v hv => e3 v (List.mem_reverse.mp hv)) e6
  rwa [List.reverse_reverse] at this
set_option maxHeartbeats 4000000 in
theorem ss_calln (C : Cx G lim d j p s m args meth c Rm h0) (A : At0 G lim j h0 h H locs cells slots lsA ls) (hv : valid j) {k jj : Nat} (hd : decode (mby j) pc = .ok (.invokestatic k, 3)) (hj : jj < 274) (ho : mown jj < 9) (hl : (mown j, k, jj, 6) ∈ mnX) (hst : jj ∈ stX) (hnn : (mrow jj).2.2.2.2 = none)
    (hf : EX G lim l d j R X pc (35, jj, mNp.getD jj 0, pc + 3, (mRc.getD jj 0 : Nat), []) ls st h) : TG G lim l j p e s m args below meth c Rm H locs cells slots R X pc lsA (st.map toV) := by
  have hf : x_calln (callZ (Snd G lim l) d) (KS G lim l d j R X) (35, jj, mNp.getD jj 0, pc + 3, (mRc.getD jj 0 : Nat), []) ls st h := hf
  obtain ⟨bs, r, rfl, e2, e3, e4⟩ := pN_spec hf
  obtain ⟨e5, e6⟩ := sh_spec e4
  rw [List.append_nil] at e6
  have := sn_calln (e := e) (below := below) (i := (35, jj, mNp.getD jj 0, pc + 3, (mRc.getD jj 0 : Nat), [])) (as := bs.reverse) C A hv.own hj ho hl hst (by rw [List.length_reverse]; exact e2) rfl rfl hd e5 (fun v hv => e3 v (List.mem_reverse.mp hv)) hnn e6
  rwa [List.reverse_reverse] at this
set_option maxHeartbeats 4000000 in
theorem ss_callv (C : Cx G lim d j p s m args meth c Rm h0) (A : At0 G lim j h0 h H locs cells slots lsA ls) (hv : valid j) {k jj : Nat} (hd : decode (mby j) pc = .ok (.invokevirtual k, 3)) (hj : jj < 274) (ho : mown jj < 8) (hl : (mown j, k, jj) ∈ mlX) (hin : jj ∈ inX) (hsel : (mown jj, jj, jj) ∈ selX)
    (hf : EX G lim l d j R X pc (33, jj, mNp.getD jj 0, pc + 3, (mRc.getD jj 0 : Nat), [(0, mown jj)]) ls st h) : TG G lim l j p e s m args below meth c Rm H locs cells slots R X pc lsA (st.map toV) := by
  have hf : x_callv (callZ (Snd G lim l) d) (KS G lim l d j R X) X (hndj j pc) (33, jj, mNp.getD jj 0, pc + 3, (mRc.getD jj 0 : Nat), [(0, mown jj)]) ls st h := hf
  obtain ⟨bs, r0, rfl, e2, e3, e4⟩ := pN_spec hf
  rcases r0 with _ | ⟨x | (_ | a) | x, r⟩
  all_goals try exact e4.elim
  obtain ⟨ha, e4⟩ : (∀ q ∈ [((0 : Int), mown jj)], hk h a = q.2) ∧ _ := e4
  have ha : hk h a = mown jj := ha _ List.mem_cons_self
  obtain ⟨e5, e6⟩ := sh_spec e4
  rw [List.append_nil] at e6
  have := sn_callv (e := e) (below := below) (i := (33, jj, mNp.getD jj 0, pc + 3, (mRc.getD jj 0 : Nat), [(0, mown jj)])) (as := bs.reverse) hv.rng C A hv.own hv.tab hj ho hl hin hsel (by rw [List.length_reverse]; exact e2) rfl rfl hd e5 (fun v hv => e3 v (List.mem_reverse.mp hv)) ha ((jok hj).2.2 ho).1 e6
  rwa [List.reverse_reverse] at this
set_option maxHeartbeats 4000000 in
theorem ss_calli (C : Cx G lim d j p s m args meth c Rm h0) (A : At0 G lim j h0 h H locs cells slots lsA ls) (hv : valid j) {k jj : Nat} (hd : decode (mby j) pc = .ok (.invokespecial k, 3)) (hj : jj < 274) (ho : mown jj < 8) (hl : (mown j, k, jj) ∈ mlX) (hin : jj ∈ inX) (hnm : (my jj).name = "<init>")
    (hf : EX G lim l d j R X pc (34, jj, mNp.getD jj 0, pc + 3, (mRc.getD jj 0 : Nat), []) ls st h) : TG G lim l j p e s m args below meth c Rm H locs cells slots R X pc lsA (st.map toV) := by
  have hf : x_calli (callZ (Snd G lim l) d) (KS G lim l d j R X) (34, jj, mNp.getD jj 0, pc + 3, (mRc.getD jj 0 : Nat), []) ls st h := hf
  obtain ⟨bs, r0, rfl, e2, e3, e4⟩ := pN_spec hf
  rcases r0 with _ | ⟨x | (_ | a) | x, r⟩
  all_goals try exact e4.elim
  obtain ⟨e5, e6⟩ := sh_spec e4
  rw [List.append_nil] at e6
  have hj2 := (jok hj).2.2 ho
  have := sn_calli (e := e) (below := below) (i := (34, jj, mNp.getD jj 0, pc + 3, (mRc.getD jj 0 : Nat), [])) (as := bs.reverse) C A hv.own hj ho hl hin hnm (by rw [List.length_reverse]; exact e2) rfl rfl hd e5 (fun v hv => e3 v (List.mem_reverse.mp hv)) hj2.1 (hj2.2 (by rw [← my_row hj]; exact hnm)) e6
  rwa [List.reverse_reverse] at this
theorem mn_none : (mnX.all fun q => ((mrow q.2.2.1).2.2.2.2).isNone) = true := by decide +kernel
set_option maxHeartbeats 8000000 in
set_option maxRecDepth 10000 in
theorem step_ins (hl : l.stackTraces = false) (C : Cx G lim d j p s m args meth c Rm h0) (A : At0 G lim j h0 h H locs cells slots lsA ls) (hv : valid j) {ins : Instr} {len : Nat} {i : Ins} (hd : decode (mby j) pc = .ok (ins, len)) (hok : okIns (mown j) (mnL j) (mby j) (zrj j) (iij j) pc ins len i = true) (hret : retI (mrt j) i = true)
    (hf : EX G lim l d j R X pc i ls st h) : TG G lim l j p e s m args below meth c Rm H locs cells slots R X pc lsA (st.map toV) := by
  have hex : ∀ k : Ins, iq i k = true → EX G lim l d j R X pc k ls st h := fun k hk => by rw [← iq_eq hk]; exact hf
  have hrx : ∀ k : Ins, iq i k = true → retI (mrt j) k = true := fun k hk => by rw [← iq_eq hk]; exact hret
  cases ins with
  | iload_n k => obtain ⟨rfl, h1⟩ := of_decide_eq_true hok; exact sn_iload C A (Or.inl ⟨k, rfl, rfl, hd⟩) (hex _ h1)
  | iload k => obtain ⟨rfl, h1⟩ := of_decide_eq_true hok; exact sn_iload C A (Or.inr ⟨rfl, hd⟩) (hex _ h1)
  | aload_n k => obtain ⟨rfl, h1⟩ := of_decide_eq_true hok; exact sn_aload C A (Or.inl ⟨k, rfl, rfl, hd⟩) (hex _ h1)
  | aload k => obtain ⟨rfl, h1⟩ := of_decide_eq_true hok; exact sn_aload C A (Or.inr ⟨rfl, hd⟩) (hex _ h1)
  | istore_n k => obtain ⟨rfl, h1, h2⟩ := of_decide_eq_true hok; exact sn_istore C A h2 (Or.inl ⟨k, rfl, rfl, hd⟩) (hex _ h1)
  | istore k => obtain ⟨rfl, h1, h2⟩ := of_decide_eq_true hok; exact sn_istore C A h2 (Or.inr ⟨rfl, hd⟩) (hex _ h1)
  | astore_n k => obtain ⟨rfl, h1, h2⟩ := of_decide_eq_true hok; exact sn_astore C A h2 (Or.inl ⟨k, rfl, rfl, hd⟩) (hex _ h1)
  | astore k => obtain ⟨rfl, h1, h2⟩ := of_decide_eq_true hok; exact sn_astore C A h2 (Or.inr ⟨rfl, hd⟩) (hex _ h1)
  | iconst n => obtain ⟨rfl, h1⟩ := of_decide_eq_true hok; exact sn_iconst C A (Or.inl ⟨rfl, hd⟩) (hex _ h1)
  | bipush n => obtain ⟨rfl, h1, h2⟩ := of_decide_eq_true hok; exact sn_iconst C A (Or.inr (Or.inl ⟨rfl, hd, h2⟩)) (hex _ h1)
  | sipush n => obtain ⟨rfl, h1, h2⟩ := of_decide_eq_true hok; exact sn_iconst C A (Or.inr (Or.inr (Or.inl ⟨rfl, hd, h2⟩))) (hex _ h1)
  | ldc k =>
    obtain ⟨rfl, h1, h2⟩ := of_decide_eq_true hok
    exact sn_iconst C A (Or.inr (Or.inr (Or.inr ⟨k, Or.inl ⟨rfl, hd⟩, C.ts _ (w_kl hv.own h2)⟩))) (hex _ h1)
  | ldc_w k =>
    obtain ⟨rfl, h1, h2⟩ := of_decide_eq_true hok
    exact sn_iconst C A (Or.inr (Or.inr (Or.inr ⟨k, Or.inr ⟨rfl, hd⟩, C.ts _ (w_kl hv.own h2)⟩))) (hex _ h1)
  | aconst_null => obtain ⟨rfl, h1⟩ := of_decide_eq_true hok; exact sn_null C A hd (hex _ h1)
  | lconst n => obtain ⟨rfl, h1⟩ := of_decide_eq_true hok; exact sn_lconst C A hd (hex _ h1)
  | getfield k => obtain ⟨h0, h1, h2, h3, h4⟩ := of_decide_eq_true hok; exact ss_get C A hv hd h0 h2 h3 h4 (hex _ h1)
  | putfield k => obtain ⟨h0, h1, h2, h3, h4, h5⟩ := of_decide_eq_true hok; exact ss_put C A hv hd h0 h2 h3 h4 h5 (hex _ h1)
  | iadd => obtain ⟨rfl, h1⟩ := of_decide_eq_true hok; exact sn_bin C A (Or.inl ⟨rfl, hd⟩) (hex _ h1)
  | isub => obtain ⟨rfl, h1⟩ := of_decide_eq_true hok; exact sn_bin C A (Or.inr (Or.inl ⟨rfl, hd⟩)) (hex _ h1)
  | imul => obtain ⟨rfl, h1⟩ := of_decide_eq_true hok; exact sn_bin C A (Or.inr (Or.inr (Or.inl ⟨rfl, hd⟩))) (hex _ h1)
  | iand => obtain ⟨rfl, h1⟩ := of_decide_eq_true hok; exact sn_bin C A (Or.inr (Or.inr (Or.inr (Or.inl ⟨rfl, hd⟩)))) (hex _ h1)
  | ior => obtain ⟨rfl, h1⟩ := of_decide_eq_true hok; exact sn_bin C A (Or.inr (Or.inr (Or.inr (Or.inr (Or.inl ⟨rfl, hd⟩))))) (hex _ h1)
  | ixor => obtain ⟨rfl, h1⟩ := of_decide_eq_true hok; exact sn_bin C A (Or.inr (Or.inr (Or.inr (Or.inr (Or.inr (Or.inl ⟨rfl, hd⟩)))))) (hex _ h1)
  | ishl => obtain ⟨rfl, h1⟩ := of_decide_eq_true hok; exact sn_bin C A (Or.inr (Or.inr (Or.inr (Or.inr (Or.inr (Or.inr (Or.inl ⟨rfl, hd⟩))))))) (hex _ h1)
  | ishr => obtain ⟨rfl, h1⟩ := of_decide_eq_true hok; exact sn_bin C A (Or.inr (Or.inr (Or.inr (Or.inr (Or.inr (Or.inr (Or.inr (Or.inl ⟨rfl, hd⟩)))))))) (hex _ h1)
  | iushr => obtain ⟨rfl, h1⟩ := of_decide_eq_true hok; exact sn_bin C A (Or.inr (Or.inr (Or.inr (Or.inr (Or.inr (Or.inr (Or.inr (Or.inr ⟨rfl, hd⟩)))))))) (hex _ h1)
  | idiv => obtain ⟨rfl, h1⟩ := of_decide_eq_true hok; exact sn_idiv C A hd (hex _ h1)
  | irem => obtain ⟨rfl, h1⟩ := of_decide_eq_true hok; exact sn_irem C A hd (hex _ h1)
  | ineg => obtain ⟨rfl, h1⟩ := of_decide_eq_true hok; exact sn_ineg C A hd (hex _ h1)
  | iinc k n => obtain ⟨rfl, h1⟩ := of_decide_eq_true hok; exact sn_iinc C A hd (hex _ h1)
  | goto f => obtain ⟨rfl, h1, h2⟩ := of_decide_eq_true hok; exact sn_goto C A hd h2 (hex _ h1)
  | ifCond k f => obtain ⟨rfl, h1, h2⟩ := of_decide_eq_true hok; exact sn_if C A hd h2 (hex _ h1)
  | if_icmp k f => obtain ⟨rfl, h1, h2⟩ := of_decide_eq_true hok; exact sn_icmp C A hd h2 (hex _ h1)
  | if_acmp k f =>
    cases k with
    | eq => obtain ⟨rfl, h1, h2⟩ := of_decide_eq_true hok; exact sn_aeq C A hd h2 (hex _ h1)
    | ne => obtain ⟨rfl, h1, h2⟩ := of_decide_eq_true hok; exact sn_ane C A hd h2 (hex _ h1)
  | ifnull f => obtain ⟨rfl, h1, h2⟩ := of_decide_eq_true hok; exact sn_ifnull C A hd h2 (hex _ h1)
  | ifnonnull f => obtain ⟨rfl, h1, h2⟩ := of_decide_eq_true hok; exact sn_ifnonnull C A hd h2 (hex _ h1)
  | iaload =>
    obtain ⟨rfl, h1⟩ := of_decide_eq_true hok
    rcases h1 with h1 | h1
    · have hf := hex _ h1
      rcases st with _ | ⟨v | o | v, _ | ⟨x | (_ | x) | x, r⟩⟩
      all_goals try exact (show False from hf).elim
      have hf : hk h x = 8 ∧ ix v (hLen h x) ∧ Snd G lim l d j (pc + 1) ls (vi (hI h x v.toNatClampNeg) :: r) h R X := hf
      exact sn_ald C A (Or.inl ⟨hf.1, hd⟩) hf.2.1 hf.2.2
    · have hf := hex _ h1
      rcases st with _ | ⟨v | o | v, _ | ⟨x | (_ | x) | x, r⟩⟩
      all_goals try exact (show False from hf).elim
      have hf : hk h x = 14 ∧ ix v (hLen h x) ∧ Snd G lim l d j (pc + 1) ls (vi (hI h x v.toNatClampNeg) :: r) h R X := hf
      exact sn_ald C A (Or.inr (Or.inr ⟨hf.1, hd⟩)) hf.2.1 hf.2.2
  | baload =>
    obtain ⟨rfl, h1⟩ := of_decide_eq_true hok
    have hf := hex _ h1
    rcases st with _ | ⟨v | o | v, _ | ⟨x | (_ | x) | x, r⟩⟩
    all_goals try exact (show False from hf).elim
    have hf : hk h x = 9 ∧ ix v (hLen h x) ∧ Snd G lim l d j (pc + 1) ls (vi (hI h x v.toNatClampNeg) :: r) h R X := hf
    exact sn_ald C A (Or.inr (Or.inl ⟨hf.1, hd⟩)) hf.2.1 hf.2.2
  | aaload =>
    obtain ⟨rfl, h1, h2, h3⟩ := of_decide_eq_true hok
    have hf := hex _ h1
    rcases st with _ | ⟨v | o | v, _ | ⟨x | (_ | x) | x, r⟩⟩
    all_goals try exact (show False from hf).elim
    have hf : hk h x = i.2.1 ∧ ix v (hLen h x) ∧ Snd G lim l d j (pc + 1) ls (vr (hP h x v.toNatClampNeg) :: r) h R X := hf
    exact sn_aald C A (by rw [hf.1]; exact h2) (by rw [hf.1]; exact h3) hd hf.2.1 hf.2.2
  | laload =>
    obtain ⟨rfl, h1⟩ := of_decide_eq_true hok
    have hf := hex _ h1
    rcases st with _ | ⟨v | o | v, _ | ⟨x | (_ | x) | x, r⟩⟩
    all_goals try exact (show False from hf).elim
    have hf : hk h x = 13 ∧ ix v (hLen h x) ∧ Snd G lim l d j (pc + 1) ls (vl (hJ h x v.toNatClampNeg) :: r) h R X := hf
    exact sn_lald C A hf.1 hd hf.2.1 hf.2.2
  | iastore =>
    obtain ⟨rfl, h1⟩ := of_decide_eq_true hok
    have hf := hex _ h1
    rcases st with _ | ⟨w | o | w, _ | ⟨v | o2 | v, _ | ⟨x | (_ | x) | x, r⟩⟩⟩
    all_goals try exact (show False from hf).elim
    have hf : hk h x = 8 ∧ ix v (hLen h x) ∧ Snd G lim l d j (pc + 1) ls r (sI h x v.toNatClampNeg w) R X := hf
    exact sn_iast C A (Or.inl ⟨hf.1, hd⟩) hf.2.1 hf.2.2
  | bastore =>
    obtain ⟨rfl, h1⟩ := of_decide_eq_true hok
    have hf := hex _ h1
    rcases st with _ | ⟨w | o | w, _ | ⟨v | o2 | v, _ | ⟨x | (_ | x) | x, r⟩⟩⟩
    all_goals try exact (show False from hf).elim
    have hf : hk h x = 9 ∧ ix v (hLen h x) ∧ b01 w ∧ Snd G lim l d j (pc + 1) ls r (sI h x v.toNatClampNeg w) R X := hf
    exact sn_iast C A (Or.inr ⟨hf.1, hd, hf.2.2.1⟩) hf.2.1 hf.2.2.2
  | aastore =>
    obtain ⟨rfl, h1, h2, h3⟩ := of_decide_eq_true hok
    have hf := hex _ h1
    rcases st with _ | ⟨w | o | w, _ | ⟨v | o2 | v, _ | ⟨x | (_ | x) | x, r⟩⟩⟩
    all_goals try exact (show False from hf).elim
    have hf : hk h x = i.2.1 ∧ ix v (hLen h x) ∧ (∀ b, o = some b → hk h b = i.2.2.1) ∧ Snd G lim l d j (pc + 1) ls r (sP h x v.toNatClampNeg o) R X := hf
    exact sn_aast C A h2 (by rw [hf.1]; exact h3) hd hf.2.1 hf.2.2.1 hf.2.2.2
  | lastore =>
    obtain ⟨rfl, h1⟩ := of_decide_eq_true hok
    have hf := hex _ h1
    rcases st with _ | ⟨w | o | w, _ | ⟨v | o2 | v, _ | ⟨x | (_ | x) | x, r⟩⟩⟩
    all_goals try exact (show False from hf).elim
    have hf : hk h x = 13 ∧ ix v (hLen h x) ∧ Snd G lim l d j (pc + 1) ls r (sJ h x v.toNatClampNeg w) R X := hf
    exact sn_last C A hf.1 hd hf.2.1 hf.2.2
  | arraylength =>
    obtain ⟨rfl, h1⟩ := of_decide_eq_true hok
    have hf := hex _ h1
    rcases st with _ | ⟨x | (_ | x) | x, r⟩
    all_goals try exact (show False from hf).elim
    have hf : (8 ≤ hk h x ∧ hk h x < 15) ∧ Snd G lim l d j (pc + 1) ls (vi (nI (hLen h x)) :: r) h R X := hf
    exact sn_alen C A hf.1.1 hf.1.2 hd hf.2
  | dup => obtain ⟨rfl, h1⟩ := of_decide_eq_true hok; exact sn_dup C A hd (hex _ h1)
  | dup2 => obtain ⟨rfl, h1⟩ := of_decide_eq_true hok; exact sn_dup2 C A hd (hex _ h1)
  | pop => obtain ⟨rfl, h1⟩ := of_decide_eq_true hok; exact sn_pop C A hd (hex _ h1)
  | i2l => obtain ⟨rfl, h1⟩ := of_decide_eq_true hok; exact sn_i2l C A hd (hex _ h1)
  | lcmp => obtain ⟨rfl, h1⟩ := of_decide_eq_true hok; exact sn_lcmp C A hd (hex _ h1)
  | invokestatic k =>
    obtain ⟨rfl, h1⟩ := of_decide_eq_true hok
    rcases h1 with ⟨h1, h2⟩ | ⟨h1, h2⟩ | ⟨h1, h2, h3, h4, h5⟩ | ⟨h1, h2, h3, h4, h5⟩
    · have hf : x_max (KS G lim l d j R X) (37, 0, 0, pc + 3, 0, []) ls st h := hex _ h1
      rcases st with _ | ⟨y | o | y, _ | ⟨x | o2 | x, r⟩⟩
      all_goals try exact hf.elim
      obtain ⟨e5, e6⟩ := sh_spec hf
      have w1 := C.ts _ (w_ml hv.own h2)
      have w2 := C.ts _ (w_st mm_st.1)
      have w3 := C.ts _ (TW_of (cw_in (j := jMax) (by decide)).1 (cw_in (j := jMax) (by decide)).2)
      rw [max_my] at w1 w2
      rw [max_cw] at w3
      exact sn_max C A e5 w1 w2 (C.ts _ math_ini) w3 hd e6
    · have hf : x_min (KS G lim l d j R X) (38, 0, 0, pc + 3, 0, []) ls st h := hex _ h1
      rcases st with _ | ⟨y | o | y, _ | ⟨x | o2 | x, r⟩⟩
      all_goals try exact hf.elim
      obtain ⟨e5, e6⟩ := sh_spec hf
      have w1 := C.ts _ (w_ml hv.own h2)
      have w2 := C.ts _ (w_st mm_st.2)
      have w3 := C.ts _ (TW_of (cw_in (j := jMin) (by decide)).1 (cw_in (j := jMin) (by decide)).2)
      rw [min_my] at w1 w2
      rw [min_cw] at w3
      exact sn_min C A e5 w1 w2 (C.ts _ math_ini) w3 hd e6
    · exact ss_calls C A hv hd h2 h3 h4 h5 (hex _ h1)
    · have hn := List.all_eq_true.mp mn_none _ h4
      exact ss_calln C A hv hd h2 h3 h4 h5 (Option.isNone_iff_eq_none.mp hn) (hex _ h1)
  | invokevirtual k =>
    obtain ⟨rfl, h1, h2, h3, h4, h5, h6⟩ := of_decide_eq_true hok
    exact ss_callv C A hv hd h2 h3 h4 h5 h6 (hex _ h1)
  | invokespecial k =>
    obtain ⟨rfl, h1⟩ := of_decide_eq_true hok
    rcases h1 with ⟨h1, h2⟩ | ⟨h1, h2, h3, h4, h5, h6⟩
    · have hf : x_objinit (KS G lim l d j R X) (36, 0, 0, pc + 3, 0, []) ls st h := hex _ h1
      rcases st with _ | ⟨x | (_ | x) | x, r⟩
      all_goals try exact hf.elim
      obtain ⟨e5, e6⟩ := sh_spec hf
      have w1 := C.ts _ (w_ml hv.own h2)
      have w2 := C.ts _ (w_in obj_in)
      have w3 := C.ts _ (TW_of (cw_in (j := jObj) (by decide)).1 (cw_in (j := jObj) (by decide)).2)
      rw [obj_my] at w1 w2
      rw [obj_cw] at w3
      exact sn_objinit C A e5 w1 w2 w3 hd e6
    · exact ss_calli C A hv hd h2 h3 h4 h5 h6 (hex _ h1)
  | new k =>
    obtain ⟨rfl, h1⟩ := of_decide_eq_true hok
    rcases h1 with ⟨h1, h2, h3, h4⟩ | ⟨h1, h2, h3, h4⟩
    · have hf := hex _ h1
      have hf : hsz h + 1 ≤ lim.1 ∧ hsu h + nfs.getD i.2.1 0 ≤ lim.2 ∧ Snd G lim l d j (pc + 3) ls (vr (some (hsz h)) :: st) (nw h i.2.1 (nfs.getD i.2.1 0)) R X := hf
      exact sn_new C A h2 (C.ts _ (w_cl hv.own (by omega) h3)) (C.ts _ (w_ins (by omega) h4)) (C.ts _ (w_ini8 (by omega))) hd hf.1 hf.2.1 hf.2.2
    · have hf := hex _ h1
      obtain ⟨e1, e2, e3, e4⟩ : st = [] ∧ hsz h + 1 ≤ lim.1 ∧ hsu h + 6 ≤ lim.2 ∧ ∀ s u, hsz h ≤ s → s ≤ hsz h + 1 → hsu h ≤ u → u ≤ hsu h + 6 → X i.2.1 (gr h s u) := hf
      subst e1
      have hj : j < 274 := by
        rcases hv with q | rfl
        · exact q.1
        · exact absurd h2 (by decide)
      rw [h2] at h3
      exact sn_throw hl C A hj h2 h3 hd h4 e2 e3 e4
  | newarray t =>
    obtain ⟨rfl, h1, h2⟩ := of_decide_eq_true hok
    have hf : x_newarr (KS G lim l d j R X) lim (40, i.2.1, 0, pc + 2, 0, []) ls st h := hex _ h1
    rcases st with _ | ⟨n | o | n, r⟩
    all_goals try exact hf.elim
    have hf : 0 ≤ n ∧ n ≤ 100000 ∧ hsz h + 1 ≤ lim.1 ∧ hsu h + n.toNatClampNeg ≤ lim.2 ∧ Snd G lim l d j (pc + 2) ls (vr (some (hsz h)) :: r) (nw h i.2.1 n.toNatClampNeg) R X := hf
    have hr : 8 ≤ i.2.1 ∧ i.2.1 < 14 := by
      have h2 := h2
      unfold atk at h2
      split at h2
      · rename_i e; rw [e]; decide
      · rename_i e; rw [e]; decide
      · rename_i e; rw [e]; decide
      · cases h2
    exact sn_newarr C A hr.1 hr.2 (Or.inl ⟨t, h2, rfl, hd, C.ts _ (w_arr h2)⟩) hf.1 hf.2.1 hf.2.2.1 hf.2.2.2.1 hf.2.2.2.2
  | anewarray k =>
    obtain ⟨rfl, h1, h2, h3, h4⟩ := of_decide_eq_true hok
    have hf : x_newarr (KS G lim l d j R X) lim (40, i.2.1, 0, pc + 3, 0, []) ls st h := hex _ h1
    rcases st with _ | ⟨n | o | n, r⟩
    all_goals try exact hf.elim
    have hf : 0 ≤ n ∧ n ≤ 100000 ∧ hsz h + 1 ≤ lim.1 ∧ hsu h + n.toNatClampNeg ≤ lim.2 ∧ Snd G lim l d j (pc + 3) ls (vr (some (hsz h)) :: r) (nw h i.2.1 n.toNatClampNeg) R X := hf
    exact sn_newarr C A (by omega) (by omega) (Or.inr ⟨h2, h3, rfl, k, hd, C.ts _ (w_cl hv.own (by omega) h4)⟩) hf.1 hf.2.1 hf.2.2.1 hf.2.2.2.1 hf.2.2.2.2
  | ireturn =>
    obtain ⟨rfl, h1⟩ := of_decide_eq_true hok
    by_cases hz : zrj j = true
    · rw [if_pos hz] at h1
      have hf := hex _ h1
      have hr : mrt j = some .boolean := of_decide_eq_true (hrx _ h1)
      rcases st with _ | ⟨x | o | x, r⟩
      all_goals try exact (show False from hf).elim
      obtain ⟨e1, e2, e3⟩ : r = [] ∧ b01 x ∧ R (some (vi x)) h := hf
      subst e1
      exact sn_zret C A e2 hr hd e3
    · rw [if_neg hz] at h1
      have hf := hex _ h1
      have hr : mrt j = some .int := of_decide_eq_true (hrx _ h1)
      rcases st with _ | ⟨x | o | x, r⟩
      all_goals try exact (show False from hf).elim
      obtain ⟨e1, e3⟩ : r = [] ∧ R (some (vi x)) h := hf
      subst e1
      exact sn_iret C A hr hd e3
  | areturn =>
    obtain ⟨rfl, h1⟩ := of_decide_eq_true hok
    have hf := hex _ h1
    have hr := hrx _ h1
    have hr : (match mrt j with | some t => isRT t | none => false) = true := hr
    rcases st with _ | ⟨x | o | x, r⟩
    all_goals try exact (show False from hf).elim
    obtain ⟨e1, e3⟩ : r = [] ∧ R (some (vr o)) h := hf
    subst e1
    cases hm : mrt j with
    | none => rw [hm] at hr; cases hr
    | some t => rw [hm] at hr; exact sn_aret C A hm hr hd e3
  | return_ =>
    obtain ⟨rfl, h1⟩ := of_decide_eq_true hok
    have hf := hex _ h1
    have hr : (mrt j).isNone = true := hrx _ h1
    obtain ⟨e1, e3⟩ : st = [] ∧ R none h := hf
    subst e1
    exact sn_vret C A (Option.isNone_iff_eq_none.mp hr) hd e3
  | tableswitch df lo hi offs =>
    obtain ⟨h1, h2, h3, h4, h5, h6⟩ := of_decide_eq_true hok
    have hf := hex _ h1
    rcases st with _ | ⟨x | o | x, r⟩
    all_goals try exact (show False from hf).elim
    exact sn_table C A hd h2 h3 h4 h5 h6 hf
  | lookupswitch df ps =>
    obtain ⟨h1, h2, h3, h4⟩ := of_decide_eq_true hok
    have hf := hex _ h1
    rcases st with _ | ⟨x | o | x, r⟩
    all_goals try exact (show False from hf).elim
    exact sn_lookup C A hd h2 h3 h4 hf
  | _ => exact (Bool.false_ne_true hok).elim
theorem step_sound (hl : l.stackTraces = false) : ∀ d j pc ls st h R X, stepZ lim (Snd G lim l) d j pc ls st h R X → Snd G lim l d j pc ls st h R X := by
  intro d j pc ls st h R X hf p e s m args below meth c Rm h0 C H locs cells slots lsA r1 r2 r3 r4 r5
  have A : At0 G lim j h0 h H locs cells slots lsA ls := ⟨r1, r2, r3, r4, r5⟩
  have hf : EX G lim l d j R X pc (cod j pc) ls st h := hf
  rcases cod_ok j pc with hb | ⟨hv, hok, hret⟩
  · rw [hb] at hf
    exact (show False from hf).elim
  · unfold okI at hok
    split at hok
    · rename_i q hd
      exact step_ins hl C A hv hd hok hret hf
    · cases hok
theorem sound (hl : l.stackTraces = false) {d j pc : Nat} {ls : List (Option AV)} {st : List AV} {h : AHp} {R : RT} {X : XT} (hw : WP lim d j pc ls st h R X) : Snd G lim l d j pc ls st h R X := hw (Snd G lim l) (step_sound hl)
end MAIN
