theorem dx_eq : ∃ a b c, dx = some (a, b, c, 150, dxS.2.2.2.2.1, dxS.2.2.2.2.2) := by
  have h := dx_some
  simp only [Bool.and_eq_true] at h
  cases hd : dx with
  | none => rw [hd] at h; cases h.1
  | some q =>
    have hq : dxS = q := by unfold dxS; rw [hd]; rfl
    obtain ⟨a, b, c, n, σ, ρ⟩ := q
    have hn := Nat.eq_of_beq_eq_true h.2
    rw [hq] at hn ⊢
    simp only at hn
    subst hn
    exact ⟨a, b, c, rfl⟩
theorem dy_eq : ∃ a b c, dy = some (a, b, c, 173, dyS.2.2.2.2.1, dyS.2.2.2.2.2) ∧ dck dyS.2.2.2.2.2 = true := by
  have h := dy_some
  simp only [Bool.and_eq_true] at h
  cases hd : dy with
  | none => rw [hd] at h; cases h.1
  | some q =>
    have hq : dyS = q := by unfold dyS; rw [hd]; rfl
    obtain ⟨a, b, c, n, σ, ρ⟩ := q
    have hn := Nat.eq_of_beq_eq_true h.2.1
    have hk := h.2.2
    rw [hq] at hn hk ⊢
    simp only at hn
    subst hn
    exact ⟨a, b, c, rfl, hk⟩
section LWD
variable {p : Program} {l : Launch} {e : Env} {s : State} {m : MethodId} {args : Array Value} {below : List Frame} {meth : Method} {c : Code} {Q : State → Prop} {cA : Nat → ClassId} {D : va_G} {B0 : Nat} {ad0 : Nat → Nat}
theorem lw_de {q q' : DS} {i : Instr} (X : FD p room_1 s m args meth c cA D B0 code 4 12 0 173) (hf : fetch kL_law q.1 = some i) (h : de 12 i q = some q') (hM : q'.2.2.2.1 ≤ 173) (k : GDd 4 q' → WD p l e room_1 s m args below meth c Q cA D B0 4 0 ad0 q') (hg : GDd 4 q) : WD p l e room_1 s m args below meth c Q cA D B0 4 0 ad0 q := by
  obtain ⟨len, hmem⟩ := fetch_mem hf
  obtain ⟨hd, hlen⟩ := kk_L_law _ hmem
  obtain ⟨g1, -, k1⟩ := de_ok (l := l) (e := e) (below := below) (Q := Q) (ad0 := ad0) X (Nat.zero_le _) hd hlen hg h hM
  exact k1 (k g1)
theorem lw_call {pc i mm t a n n' : Nat} {lo : LO} {r : List AV} {σ σ' : Sg} {ρ ρ' : Rh} {x1 : Nat} {x2 : LO} {x3 : List AV} (X : FD p room_1 s m args meth c cA D B0 code 4 12 0 173) (hf : fetch kL_law pc = some (.invokespecial i)) (hm : dm 12 i = some (1, mm)) (ht : t = mO mm + 1) (hr : rcat r ≤ 8) (hlt : mm < 259) (hnm : (mY mm).name = "<init>") (hret : mR mm = none) (hcall : dgo 8 (mO mm) (mL mm) (dK mm) (0, ent (mL mm) [(t, .ref a)], [], n, σ, ρ) 400 = some (x1, x2, x3, n', σ', ρ')) (hM : n' ≤ 173) (k : GDd 4 (pc + 3, lo, r, n', σ', ρ') → WD p l e room_1 s m args below meth c Q cA D B0 4 0 ad0 (pc + 3, lo, r, n', σ', ρ')) (hg : GDd 4 (pc, lo, (t, .ref a) :: r, n, σ, ρ)) : WD p l e room_1 s m args below meth c Q cA D B0 4 0 ad0 (pc, lo, (t, .ref a) :: r, n, σ, ρ) := by
  obtain ⟨len, hmem⟩ := fetch_mem hf
  obtain ⟨hd, hlen⟩ := kk_L_law _ hmem
  have hlen := eq_of_beq (show (len == il (.invokespecial i)) = true from hlen)
  subst hlen
  have hmono := dgo_mono _ _ _ _ _ _ _ hcall
  simp only at hmono
  have hMet := dmet l cA D B0 8 mm n σ ρ t a _ hlt hnm hret ht (hg.2.2.1 _ List.mem_cons_self) ⟨hg.2.2.2.1, hg.2.2.2.2⟩ hcall
  exact dd_call (l := l) (e := e) (below := below) (Q := Q) (ad0 := ad0) (d := 8) X hd hm (Nat.le_refl 1) ht hr (Nat.zero_le _) hmono hM ⟨by show 9 ≤ 2048; omega, by show 64 * 9 ≤ 84000; omega⟩ hg hMet k
end LWD
theorem gd_law : ∀ v : AV, some v ∈ ([ar 33 990, ar 11 0, ar 12 150, none] : LO) → vok v := by
  intro v hv
  simp only [List.mem_cons, Option.some.injEq, List.not_mem_nil, or_false, reduceCtorEq] at hv
  rcases hv with rfl | rfl | rfl
  · intro c hc; cases hc; exact ⟨rfl, by decide⟩
  · intro c hc; cases hc; exact ⟨rfl, by decide⟩
  · intro c hc; cases hc; exact ⟨rfl, by decide⟩
theorem szs173 : szs 173 ≤ 7302250 := by decide +kernel
set_option maxRecDepth 100000 in
set_option maxHeartbeats 8000000 in
theorem whole_start {p : Program} {e : Env} {s : State} {m : MethodId} {below : List Frame} {meth : Method} {c : Code} (l : Launch) (hflags : l.flags = flags0) {b L : Nat} {xs : Nat → Int32} (hL : L ≤ 3072) (C0 : lw_At p s m meth c b L xs) : W p l e room_1 s m #[Value.ref b] below meth c s.heap [] 0 0 (lw_Z below #[Value.ref b] s) (entryFrame m ([Value.ref b] : List Value).toArray 4) := by
  obtain ⟨hx, hb, hr, hml, hown, hts, hX, hbl, hlocks, hgv⟩ := id C0
  obtain ⟨D, cA, hDK⟩ := env_K hts
  obtain ⟨ad0, hb990, hEX⟩ := env_E hts hX hbl hgv
  have htb : ∀ w ∈ TB, w.before #[Value.ref b] s = true := fun w h => hts w (List.mem_filter.mp h).1
  have XD : FD p room_1 s m #[Value.ref b] meth c cA D s.heap.size code 4 12 0 173 := ⟨hx, hb, hml, hown, htb, hDK, Or.inl rfl, Nat.le_refl _, ⟨by show 1 ≤ 2048; omega, by show 64 ≤ 84000; omega⟩, by omega, ⟨by show 173 - 0 ≤ 600000; omega, by show szs 173 - szs 0 ≤ 7302250; exact Nat.le_trans (Nat.sub_le _ _) szs173⟩⟩
  obtain ⟨a1, a2, a3, hdx⟩ := dx_eq
  obtain ⟨b1, b2, b3, hdy, hck⟩ := dy_eq
  unfold dx at hdx
  unfold dy at hdy
  obtain ⟨σ', hlaw⟩ := law_true L xs hL
  have hend : GDd 4 (16, [ar 33 990, ar 11 0, ar 12 150, none], [], 173, dyS.2.2.2.2.1, dyS.2.2.2.2.2) → WD p l e room_1 s m #[Value.ref b] below meth c (lw_Z below #[Value.ref b] s) cA D s.heap.size 4 0 ad0 (16, [ar 33 990, ar 11 0, ar 12 150, none], [], 173, dyS.2.2.2.2.1, dyS.2.2.2.2.2) := by
    intro _ ad H locs ls ha h1 h2 h3 h4
    have hw := o_L_law (l, ad, cA, D, s.heap.size, L, xs) (p, e, s, m, below, meth, c, 173 - 0, szs 173 - szs 0, b) (σ0 xs)
    have hL31 : L < 2 ^ 31 := Nat.lt_of_le_of_lt hL (by omega)
    have hwt := hw ⟨hx, hb, hml, hown, htb, hDK.1, EX_ad (fun i hi => ha i (Or.inr hi)) hEX, h3, ⟨by show 1 ≤ 2048; omega, by show 64 ≤ 84000; omega⟩, by show 173 - 0 ≤ 600000; omega, by show szs 173 - szs 0 ≤ 7302250; exact Nat.le_trans (Nat.sub_le _ _) szs173, by omega, hL31⟩ kk_L_law hr hlocks rfl ⟨by omega, Nat.le_trans (Nat.sub_le _ _) szs173⟩ σ' hlaw ⟨rfl, fun v hv => gd_law v hv, fun v hv => absurd hv List.not_mem_nil, σ0_SX L xs⟩
    exact hwt H locs ls h1 (wsd_P hck h2) h4
  have hg0 : GDd 4 (0, [ar 33 990, none, none, none], [], 0, σz, ρz) := by
    refine ⟨rfl, fun v hv => Or.inr ?_, fun v hv => absurd hv List.not_mem_nil, fun c k r h => ?_, fun c hc k => rfl, by show 0 ≤ 173; omega⟩
    · simpa using hv
    · cases h
  have main : WD p l e room_1 s m #[Value.ref b] below meth c (lw_Z below #[Value.ref b] s) cA D s.heap.size 4 0 ad0 (0, [ar 33 990, none, none, none], [], 0, σz, ρz) := by
    refine lw_de (i := .new 7) (q' := (3, [ar 33 990, none, none, none], [br 11 0], 1, σz, ρz)) XD rfl rfl (Nat.le_of_ble_eq_true rfl) (fun g1 => ?_) hg0
    refine lw_de (i := .dup) (q' := (4, [ar 33 990, none, none, none], [br 11 0, br 11 0], 1, σz, ρz)) XD rfl rfl (Nat.le_of_ble_eq_true rfl) (fun g1 => ?_) g1
    refine lw_call (mm := 103) XD rfl rfl rfl (Nat.le_of_ble_eq_true rfl) (by omega) rfl rfl hdx (by omega) (fun g1 => ?_) g1
    refine lw_de (i := .astore_n 1) (q' := (8, [ar 33 990, ar 11 0, none, none], [], 150, dxS.2.2.2.2.1, dxS.2.2.2.2.2)) XD rfl rfl (Nat.le_of_ble_eq_true rfl) (fun g1 => ?_) g1
    refine lw_de (i := .new 10) (q' := (11, [ar 33 990, ar 11 0, none, none], [br 12 150], 151, dxS.2.2.2.2.1, dxS.2.2.2.2.2)) XD rfl rfl (Nat.le_of_ble_eq_true rfl) (fun g1 => ?_) g1
    refine lw_de (i := .dup) (q' := (12, [ar 33 990, ar 11 0, none, none], [br 12 150, br 12 150], 151, dxS.2.2.2.2.1, dxS.2.2.2.2.2)) XD rfl rfl (Nat.le_of_ble_eq_true rfl) (fun g1 => ?_) g1
    refine lw_call (mm := 151) XD rfl rfl rfl (Nat.le_of_ble_eq_true rfl) (by omega) rfl rfl hdy (by omega) (fun g1 => ?_) g1
    exact lw_de (i := .astore_n 2) (q' := (16, [ar 33 990, ar 11 0, ar 12 150, none], [], 173, dyS.2.2.2.2.1, dyS.2.2.2.2.2)) XD rfl rfl (Nat.le_of_ble_eq_true rfl) hend g1
  have hl := lv_entry [Value.ref b] (n := 4) (Nat.le_of_ble_eq_true rfl)
  rw [lg_entry_eq]
  refine main ad0 s.heap [] _ (fun _ _ => rfl) ?_ (fun k q h => by simp [wsd] at h) ⟨fun i j h => absurd h (Nat.not_lt_zero _), fun i h => absurd h (Nat.not_lt_zero _)⟩ va_S.rf
  have e1 : prs ad0 0 [ar 33 990, none, none, none] = lv_args 0 [Value.ref b] := by
    simp only [prs, lv_args, cv, hb990]
  rw [e1]
  exact hl
