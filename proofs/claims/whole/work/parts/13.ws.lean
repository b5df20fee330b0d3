abbrev RO : Type := Option (Int32 × Sg)
def lt {α β : Type} (v : α) (b : α → β) : β := b v
def FU : Nat := 4096
def bn (oc : RO) (f : Int32 → Sg → RO) : RO := oc.bind (fun z => f z.1 z.2)
def bv (oc : RO) (f : Sg → RO) : RO := oc.bind (fun z => f z.2)
abbrev ai (x : Int32) : Option AV := some (0, .int x)
abbrev ar (t c : Nat) : Option AV := some (t, .ref c)
abbrev al (x : Int64) : Option AV := some (0, .long x)
abbrev bi (x : Int32) : AV := (0, .int x)
abbrev br (t c : Nat) : AV := (t, .ref c)
abbrev bl (x : Int64) : AV := (0, .long x)
def rI (o : RO) : Option (Option Int32 × Sg) := o.map (fun z => (some z.1, z.2))
def rV (o : RO) : Option (Option Int32 × Sg) := o.map (fun z => (none, z.2))
def rX (t : Option FieldType) (o : RO) : Option (Option Int32 × Sg) := match t with
  | some _ => rI o
  | none => rV o
def WS (g : GP) (I : MI) (d : Nat) (q : AS) (o : RO) : Prop := WR g I d q (rX (iR I) o)
theorem rX_ite {t : Option FieldType} {c : Prop} {dc : Decidable c} {a b : RO} : rX t (@ite _ c dc a b) = @ite _ c dc (rX t a) (rX t b) := by
  by_cases h : c <;> simp [h]
theorem rX_none {t : Option FieldType} : rX t none = none := by cases t <;> rfl
theorem rX_bind {t : Option FieldType} {oc : RO} {f : Int32 → Sg → RO} : rX t (oc.bind (fun z => f z.1 z.2)) = (rI oc).bind (fun z => rX t (f (z.1.getD 0) z.2)) := by
  cases oc with
  | none => simp [rX_none, rI]
  | some z => simp [rI]
theorem rX_bindV {t : Option FieldType} {oc : RO} {f : Sg → RO} : rX t (oc.bind (fun z => f z.2)) = (rV oc).bind (fun z => rX t (f z.2)) := by
  cases oc with
  | none => simp [rX_none, rV]
  | some z => simp [rV]
section WSS
variable {g : GP} {I : MI} {d : Nat} {q q1 q2 : AS} {o o1 o2 : RO}
theorem ws_none : WS g I d q none := by
  intro hI r σ' ho
  rw [rX_none] at ho; cases ho
theorem ws_go (n : Nat) (h : run (gL g) (iO I) (iK I) n q = some q1) (k : WS g I d q1 o) : WS g I d q o := wr_go n h k
theorem ws_if {c : Prop} {dc : Decidable c} (n : Nat) (q1 q2 : AS) (h : run (gL g) (iO I) (iK I) n q = @ite _ c dc (some q1) (some q2)) (k1 : c → WS g I d q1 o1) (k2 : ¬ c → WS g I d q2 o2) : WS g I d q (@ite _ c dc o1 o2) := by
  unfold WS; rw [rX_ite]; exact wr_if n h k1 k2
theorem ws_ck {c : Prop} {dc : Decidable c} (n : Nat) (q1 : AS) (h : run (gL g) (iO I) (iK I) n q = @ite _ c dc (some q1) none) (k1 : c → WS g I d q1 o1) : WS g I d q (@ite _ c dc o1 none) := by
  unfold WS; rw [rX_ite, rX_none]; exact wr_ck n h k1
theorem ws_nk {c : Prop} {dc : Decidable c} (n : Nat) (q1 : AS) (h : run (gL g) (iO I) (iK I) n q = @ite _ c dc none (some q1)) (k1 : ¬ c → WS g I d q1 o1) : WS g I d q (@ite _ c dc none o1) := by
  unfold WS; rw [rX_ite, rX_none]; exact wr_nk n h k1
theorem ws_lt {α : Type} {v : α} {b : α → RO} (n : Nat) (qf : α → AS) (h : run (gL g) (iO I) (iK I) n q = some (qf v)) (k : ∀ y, WS g I d (qf y) (b y)) : WS g I d q (lt v b) := wr_go n h (k v)
theorem ws_lt0 {α : Type} {v : α} {b : α → RO} (qf : α → AS) (h : q = qf v) (k : ∀ y, WS g I d (qf y) (b y)) : WS g I d q (lt v b) := by subst h; exact k v
theorem ws_dro {pc : Nat} {lo lo' : LO} {st : List AV} {σ : Sg} (h : dro lo lo') (k : WS g I d (pc, lo', st, σ) o) : WS g I d (pc, lo, st, σ) o := wr_dro h k
theorem ws_callV {pc i mm t a : Nat} {lo : LO} {st : List AV} {σ : Sg} {oc : RO} {f : Int32 → Sg → RO} (as rest : List AV) (hf : fetch (iK I) pc = some (.invokevirtual i)) (hm : mr (iO I) i = some (0, mm)) (hst : st = as.reverse ++ (t, .ref a) :: rest) (ht : t = mO mm + 1 ∧ t ≤ 12) (hn : as.length + 1 = (mA mm).length) (hr : rcat rest ≤ 8)
    (hO : ∀ v σ1, oc = some (v, σ1) → Ok g d mm ((t, .ref a) :: as) σ (some v) σ1) (k : ∀ v σ1, WS g I (d + 1) (pc + 3, lo, bi v :: rest, σ1) (f v σ1)) : WS g I (d + 1) (pc, lo, st, σ) (bn oc f) := by
  cases oc with
  | none => exact ws_none
  | some z => exact wr_callV (f := fun r y => rX (iR I) (f (r.getD 0) y)) (oc := some (some z.1, z.2)) hf hm hst ht hn hr (fun r σ1 h => by cases h; exact hO z.1 z.2 rfl) (fun r σ1 h => by cases h; exact k z.1 z.2)
theorem ws_callT {pc i mm a : Nat} {lo : LO} {st : List AV} {σ : Sg} {oc : RO} {f : Int32 → Sg → RO} (as rest : List AV) (hf : fetch (iK I) pc = some (.invokevirtual i)) (hm : mr (iO I) i = some (0, mm)) (hst : st = as.reverse ++ (30, .ref a) :: rest) (ht : mO mm = 13) (hn : as.length + 1 = (mA mm).length) (hr : rcat rest ≤ 8)
    (hO : ∀ v σ1, oc = some (v, σ1) → Ok g d mm ((30, .ref a) :: as) σ (some v) σ1) (k : ∀ v σ1, WS g I (d + 1) (pc + 3, lo, bi v :: rest, σ1) (f v σ1)) : WS g I (d + 1) (pc, lo, st, σ) (bn oc f) := by
  cases oc with
  | none => exact ws_none
  | some z => exact wr_callT (f := fun r y => rX (iR I) (f (r.getD 0) y)) (oc := some (some z.1, z.2)) hf hm hst ht hn hr (fun r σ1 h => by cases h; exact hO z.1 z.2 rfl) (fun r σ1 h => by cases h; exact k z.1 z.2)
theorem ws_callVV {pc i mm t a : Nat} {lo : LO} {st : List AV} {σ : Sg} {oc : RO} {f : Sg → RO} (as rest : List AV) (hf : fetch (iK I) pc = some (.invokevirtual i)) (hm : mr (iO I) i = some (0, mm)) (hst : st = as.reverse ++ (t, .ref a) :: rest) (ht : t = mO mm + 1 ∧ t ≤ 12) (hn : as.length + 1 = (mA mm).length) (hr : rcat rest ≤ 8)
    (hO : ∀ v σ1, oc = some (v, σ1) → Ok g d mm ((t, .ref a) :: as) σ none σ1) (k : ∀ σ1, WS g I (d + 1) (pc + 3, lo, rest, σ1) (f σ1)) : WS g I (d + 1) (pc, lo, st, σ) (bv oc f) := by
  cases oc with
  | none => exact ws_none
  | some z => exact wr_callV (f := fun _ y => rX (iR I) (f y)) (oc := some (none, z.2)) hf hm hst ht hn hr (fun r σ1 h => by cases h; exact hO z.1 z.2 rfl) (fun r σ1 h => by cases h; exact k z.2)
theorem ws_callS {pc i mm kk : Nat} {lo : LO} {st : List AV} {σ : Sg} {oc : RO} {f : Int32 → Sg → RO} (as rest : List AV) (hf : fetch (iK I) pc = some (.invokestatic i)) (hm : mr (iO I) i = some (kk, mm)) (hkk : kk = 1 ∨ kk = 2) (hst : st = as.reverse ++ rest) (hn : as.length = (mA mm).length) (hr : rcat rest ≤ 8)
    (hO : ∀ v σ1, oc = some (v, σ1) → Ok g d mm as σ (some v) σ1) (k : ∀ v σ1, WS g I (d + 1) (pc + 3, lo, bi v :: rest, σ1) (f v σ1)) : WS g I (d + 1) (pc, lo, st, σ) (bn oc f) := by
  cases oc with
  | none => exact ws_none
  | some z => exact wr_callS (f := fun r y => rX (iR I) (f (r.getD 0) y)) (oc := some (some z.1, z.2)) hf hm hkk hst hn hr (fun r σ1 h => by cases h; exact hO z.1 z.2 rfl) (fun r σ1 h => by cases h; exact k z.1 z.2)
theorem ws_callSV {pc i mm kk : Nat} {lo : LO} {st : List AV} {σ : Sg} {oc : RO} {f : Sg → RO} (as rest : List AV) (hf : fetch (iK I) pc = some (.invokestatic i)) (hm : mr (iO I) i = some (kk, mm)) (hkk : kk = 1 ∨ kk = 2) (hst : st = as.reverse ++ rest) (hn : as.length = (mA mm).length) (hr : rcat rest ≤ 8)
    (hO : ∀ v σ1, oc = some (v, σ1) → Ok g d mm as σ none σ1) (k : ∀ σ1, WS g I (d + 1) (pc + 3, lo, rest, σ1) (f σ1)) : WS g I (d + 1) (pc, lo, st, σ) (bv oc f) := by
  cases oc with
  | none => exact ws_none
  | some z => exact wr_callS (f := fun _ y => rX (iR I) (f y)) (oc := some (none, z.2)) hf hm hkk hst hn hr (fun r σ1 h => by cases h; exact hO z.1 z.2 rfl) (fun r σ1 h => by cases h; exact k z.2)
def WO (g : GP) (I : MI) (d : Nat) (X : Option AS) (o : RO) : Prop := MIok I → ∀ r σ', rX (iR I) o = some (r, σ') → ∃ q', X = some q' ∧ WC g I d r σ' q'
theorem wo_some (k : WS g I d q o) : WO g I d (some q) o := fun hI r σ' h => ⟨q, rfl, k hI r σ' h⟩
theorem wo_ite {c : Prop} {dc : Decidable c} {X1 X2 : Option AS} (k1 : c → WO g I d X1 o1) (k2 : ¬ c → WO g I d X2 o2) : WO g I d (@ite _ c dc X1 X2) (@ite _ c dc o1 o2) := by
  intro hI r σ' h
  by_cases hc : c
  · rw [if_pos hc] at h ⊢; exact k1 hc hI r σ' h
  · rw [if_neg hc] at h ⊢; exact k2 hc hI r σ' h
theorem ws_of {X : Option AS} (n : Nat) (h : run (gL g) (iO I) (iK I) n q = X) (k : WO g I d X o) : WS g I d q o := by
  intro hI r σ' ho
  obtain ⟨q', hq, hk⟩ := k hI r σ' ho
  exact wc_run hI n (by rw [h, hq]) hk
theorem ws_iret {pc t : Nat} {lo : LO} {v : Int32} {σ : Sg} (hf : fetch (iK I) pc = some .ireturn) (hty : iR I = some .int) : WS g I d (pc, lo, [(t, .int v)], σ) (some (v, σ)) := by
  unfold WS; rw [hty]; exact wr_iret hf hty rfl
theorem ws_zret {pc t : Nat} {lo : LO} {v : Int32} {σ : Sg} (hf : fetch (iK I) pc = some .ireturn) (hty : iR I = some .boolean) (hv : narrow .boolean (.int v) = .int v) : WS g I d (pc, lo, [(t, .int v)], σ) (some (v, σ)) := by
  unfold WS; rw [hty]; exact wr_iret hf hty hv
theorem ws_zretc {pc t : Nat} {lo : LO} {v : Int32} {σ : Sg} (hf : fetch (iK I) pc = some .ireturn) (hty : iR I = some .boolean) : WS g I d (pc, lo, [(t, .int v)], σ) (if v = 0 ∨ v = 1 then some (v, σ) else none) := by
  by_cases h : v = 0 ∨ v = 1
  · rw [if_pos h]
    refine ws_zret hf hty ?_
    rcases h with rfl | rfl <;> decide
  · rw [if_neg h]; exact ws_none
theorem ws_vret {pc : Nat} {lo : LO} {σ : Sg} (hf : fetch (iK I) pc = some .return_) (hty : iR I = none) : WS g I d (pc, lo, [], σ) (some (0, σ)) := by
  unfold WS; rw [hty]; exact wr_vret hf hty
theorem ok_ofI {n : Nat} {lo : LO} {as : List AV} {σ : Sg} {ty : FieldType} (hI : MIok I) (hn : iN I = n) (hty : iR I = some ty) (hlen : Nat.ble (lent as).length (iL I) = true) (he : ent (iL I) as = lo) (k : WS g I (d + 1) (0, lo, [], σ) o) : ∀ v σ', o = some (v, σ') → Ok g (d + 1) n as σ (some v) σ' := by
  intro v σ' ho
  subst hn
  subst he
  refine ok_of hI (by omega) (Nat.le_of_ble_eq_true hlen) k (some v) σ' ?_
  rw [hty, ho]; rfl
theorem ok_ofV {n : Nat} {lo : LO} {as : List AV} {σ : Sg} (hI : MIok I) (hn : iN I = n) (hty : iR I = none) (hlen : Nat.ble (lent as).length (iL I) = true) (he : ent (iL I) as = lo) (k : WS g I (d + 1) (0, lo, [], σ) o) : ∀ v σ', o = some (v, σ') → Ok g (d + 1) n as σ none σ' := by
  intro v σ' ho
  subst hn
  subst he
  refine ok_of hI (by omega) (Nat.le_of_ble_eq_true hlen) k none σ' ?_
  rw [hty, ho]; rfl
end WSS
