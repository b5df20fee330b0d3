def FX (p : Program) (R : Room) (s : State) (m : MethodId) (args : Array Value) (c : Code) (nc ns : Nat) (ad : Nat → Nat) (cA : Nat → ClassId) (D : va_G) (B0 L : Nat) (xs : Nat → Int32) (cc : ByteArray) (nL ow : Nat) : Prop :=
  p.tables.exec = Jvm.exec ∧ c.code = cc ∧ c.maxLocals = nL ∧ s.vm.findClass (cR ow) = some m.cls ∧ (∀ w ∈ TB, w.before args s = true) ∧ va_K D cl12 (tysL cA) s ∧ EX ad B0 L xs s s.heap ∧ ADok ad B0 ∧ (1 ≤ R.frames ∧ 64 ≤ R.locals) ∧ nc ≤ R.cells ∧ ns ≤ R.slots ∧ ow < 17 ∧ L < 2 ^ 31
def WT (p : Program) (l : Launch) (e : Env) (R : Room) (s : State) (m : MethodId) (args : Array Value) (below : List Frame) (meth : Method) (c : Code) (nc ns : Nat) (Q : State → Prop) (ad : Nat → Nat) (cA : Nat → ClassId) (D : va_G) (B0 nL : Nat) (q : AS) : Prop :=
  ∀ (H : Heap) (locs : List Loc) (ls : Array Slot), lv_has ls nL (prs ad 0 q.2.1) → va_P D cl12 (wsl ad cA q.2.2.2) H → va_S (fun x => B0 ≤ x) s.heap H locs → W p l e R s m args below meth c H locs nc ns Q (F0 m q.1 ls (q.2.2.1.map (cv ad)))
section STP
variable {p : Program} {l : Launch} {e : Env} {R : Room} {s : State} {m : MethodId} {args : Array Value} {below : List Frame} {meth : Method} {c : Code} {nc ns : Nat} {Q : State → Prop} {ad : Nat → Nat} {cA : Nat → ClassId} {D : va_G} {B0 L : Nat} {xs : Nat → Int32} {cc : ByteArray} {nL ow : Nat}
variable {pc : Nat} {lo : LO} {st : List AV} {σ : Sg} {q' : AS}
theorem vok_i {t : Nat} {x : Int32} : vok (t, .int x) := fun _ h => by cases h
theorem vok_l {t : Nat} {x : Int64} : vok (t, .long x) := fun _ h => by cases h
theorem tb_mem {w : Cond} {i : Nat} (h : lw_tbl[i]? = some w) (hg : goodWord w = true) : w ∈ TB := List.mem_filter.mpr ⟨List.mem_of_getElem? h, hg⟩
theorem GD.push {v : AV} {pc' : Nat} (h : GD nL L xs (pc, lo, st, σ)) (hv : vok v) : GD nL L xs (pc', lo, v :: st, σ) :=
  ⟨h.1, h.2.1, fun w hw => by rcases List.mem_cons.mp hw with rfl | h1; exact hv; exact h.2.2.1 w h1, h.2.2.2⟩
theorem GD.tail {v : AV} (h : GD nL L xs (pc, lo, v :: st, σ)) : GD nL L xs (pc, lo, st, σ) :=
  ⟨h.1, h.2.1, fun w hw => h.2.2.1 w (List.mem_cons_of_mem _ hw), h.2.2.2⟩
theorem GD.head {v : AV} (h : GD nL L xs (pc, lo, v :: st, σ)) : vok v := h.2.2.1 v List.mem_cons_self
theorem GD.at {pc' : Nat} (h : GD nL L xs (pc, lo, st, σ)) : GD nL L xs (pc', lo, st, σ) := h
theorem GD.sto {v : AV} {i pc' : Nat} (h : GD nL L xs (pc, lo, st, σ)) (hv : vok v) : GD nL L xs (pc', lst lo i v, st, σ) :=
  ⟨by rw [← h.1]; exact lst_len, fun w hw => by rcases lst_mem hw with rfl | h1; exact hv; exact h.2.1 w h1, h.2.2.1, h.2.2.2⟩
-- one row for each shape of instruction: 'OKs' is what is shown of each
def OKs (p : Program) (l : Launch) (e : Env) (R : Room) (s : State) (m : MethodId) (args : Array Value) (below : List Frame) (meth : Method) (c : Code) (nc ns : Nat) (Q : State → Prop) (ad : Nat → Nat) (cA : Nat → ClassId) (D : va_G) (B0 L : Nat) (xs : Nat → Int32) (nL : Nat) (q q' : AS) : Prop :=
  GD nL L xs q' ∧ (WT p l e R s m args below meth c nc ns Q ad cA D B0 nL q' → WT p l e R s m args below meth c nc ns Q ad cA D B0 nL q)
theorem ok_push {v : AV} {n : Nat} (hg : GD nL L xs (pc, lo, st, σ)) (h : e_push v n pc lo st σ = some q') (hv : vok v) (row : ∀ (H : Heap) (locs : List Loc) (ls : Array Slot) (rest : List Value), W p l e R s m args below meth c H locs nc ns Q (F0 m (pc + n) ls (cv ad v :: rest)) → W p l e R s m args below meth c H locs nc ns Q (F0 m pc ls rest)) : OKs p l e R s m args below meth c nc ns Q ad cA D B0 L xs nL (pc, lo, st, σ) q' := by
  cases h
  exact ⟨hg.push hv, fun k H locs ls h1 h2 h3 => row H locs ls _ (k H locs ls h1 h2 h3)⟩
theorem ok_load {i n : Nat} {v : AV} (hg : GD nL L xs (pc, lo, st, σ)) (hl : lg lo i = some v) (row : ∀ (H : Heap) (locs : List Loc) (ls : Array Slot) (rest : List Value), ls[i]? = some (.val (cv ad v)) → W p l e R s m args below meth c H locs nc ns Q (F0 m (pc + n) ls (cv ad v :: rest)) → W p l e R s m args below meth c H locs nc ns Q (F0 m pc ls rest)) : OKs p l e R s m args below meth c nc ns Q ad cA D B0 L xs nL (pc, lo, st, σ) (pc + n, lo, v :: st, σ) := by
  refine ⟨hg.push (hg.2.1 v (lg_mem hl)), fun k H locs ls h1 h2 h3 => row H locs ls _ ?_ (k H locs ls h1 h2 h3)⟩
  have := h1.2.2 _ (prs_mem (ad := ad) (j := 0) hl)
  simpa using this
theorem ok_store {i n : Nat} {v : AV} {r : List AV} (hg : GD nL L xs (pc, lo, v :: r, σ)) (hc : (noL lo && Nat.blt i (lle lo)) = true) (row : ∀ (H : Heap) (locs : List Loc) (ls : Array Slot) (rest : List Value) (lv : List (Nat × Value)), lv_has ls nL lv → i < nL → (∀ ls' : Array Slot, lv_has ls' nL ((i, cv ad v) :: lv.filter (fun q => !(q.1 == i) && !(q.1 + 1 == i && q.2.category == 2))) → W p l e R s m args below meth c H locs nc ns Q (F0 m (pc + n) ls' rest)) → W p l e R s m args below meth c H locs nc ns Q (F0 m pc ls (cv ad v :: rest))) : OKs p l e R s m args below meth c nc ns Q ad cA D B0 L xs nL (pc, lo, v :: r, σ) (pc + n, lst lo i v, r, σ) := by
  simp only [Bool.and_eq_true] at hc
  have hi : i < nL := by
    rw [← hg.1, ← lle_len]; simpa [Nat.blt_eq] using hc.2
  refine ⟨hg.tail.sto hg.head, fun k H locs ls h1 h2 h3 => row H locs ls _ _ h1 hi (fun ls' h => k H locs ls' (lv_sto hc.1 h) h2 h3)⟩
theorem ok_un {f : Int32 → Int32} (hg : GD nL L xs (pc, lo, st, σ)) (h : e_un f pc lo st σ = some q') (row : ∀ (H : Heap) (locs : List Loc) (ls : Array Slot) (rest : List Value) (x : Int32), W p l e R s m args below meth c H locs nc ns Q (F0 m (pc + 1) ls (.int (f x) :: rest)) → W p l e R s m args below meth c H locs nc ns Q (F0 m pc ls (.int x :: rest))) : OKs p l e R s m args below meth c nc ns Q ad cA D B0 L xs nL (pc, lo, st, σ) q' := by
  unfold e_un at h
  split at h
  · cases h
    exact ⟨hg.tail.push vok_i, fun k H locs ls h1 h2 h3 => row H locs ls _ _ (k H locs ls h1 h2 h3)⟩
  · cases h
theorem ok_bin {f : Int32 → Int32 → Int32} (hg : GD nL L xs (pc, lo, st, σ)) (h : e_bin f pc lo st σ = some q') (row : ∀ (H : Heap) (locs : List Loc) (ls : Array Slot) (rest : List Value) (x y : Int32), W p l e R s m args below meth c H locs nc ns Q (F0 m (pc + 1) ls (.int (f x y) :: rest)) → W p l e R s m args below meth c H locs nc ns Q (F0 m pc ls (.int y :: .int x :: rest))) : OKs p l e R s m args below meth c nc ns Q ad cA D B0 L xs nL (pc, lo, st, σ) q' := by
  unfold e_bin at h
  split at h
  · cases h
    exact ⟨hg.tail.tail.push vok_i, fun k H locs ls h1 h2 h3 => row H locs ls _ _ _ (k H locs ls h1 h2 h3)⟩
  · cases h
theorem ok_div {f : Int32 → Int32 → Int32} (hg : GD nL L xs (pc, lo, st, σ)) (h : e_div f pc lo st σ = some q') (row : ∀ (H : Heap) (locs : List Loc) (ls : Array Slot) (rest : List Value) (x y : Int32), ¬ y = 0 → W p l e R s m args below meth c H locs nc ns Q (F0 m (pc + 1) ls (.int (f x y) :: rest)) → W p l e R s m args below meth c H locs nc ns Q (F0 m pc ls (.int y :: .int x :: rest))) : OKs p l e R s m args below meth c nc ns Q ad cA D B0 L xs nL (pc, lo, st, σ) q' := by
  unfold e_div at h
  split at h
  · split at h
    · cases h
    · rename_i hy
      cases h
      exact ⟨hg.tail.tail.push vok_i, fun k H locs ls h1 h2 h3 => row H locs ls _ _ _ hy (k H locs ls h1 h2 h3)⟩
  · cases h
theorem ok_if {o : Jvm.ClassFile.Cond} {off : Int} (hx : p.tables.exec = Jvm.exec) (hb : c.code = cc) (hd : decode cc pc = .ok (.ifCond o off, 3)) (hg : GD nL L xs (pc, lo, st, σ)) (h : e_if o off pc lo st σ = some q') : OKs p l e R s m args below meth c nc ns Q ad cA D B0 L xs nL (pc, lo, st, σ) q' := by
  unfold e_if at h
  split at h
  · rename_i t x r
    split at h
    · cases h
    · rename_i hj
      have hj' := jok_eq hj
      cases o
      all_goals (simp only at h; split at h <;> rename_i hc <;> cases h <;> refine ⟨hg.tail, fun k H locs ls h1 h2 h3 => ?_⟩)
      · exact lv_if_eq hx hb hd hj' (fun _ => k H locs ls h1 h2 h3) (fun z => absurd hc z)
      · exact lv_if_eq hx hb hd hj' (fun z => absurd z hc) (fun _ => k H locs ls h1 h2 h3)
      · exact lv_if_ne hx hb hd hj' (fun z => absurd hc z) (fun _ => k H locs ls h1 h2 h3)
      · exact lv_if_ne hx hb hd hj' (fun _ => k H locs ls h1 h2 h3) (fun z => absurd z hc)
      · exact lv_if_lt hx hb hd hj' (fun _ => k H locs ls h1 h2 h3) (fun z => absurd hc z)
      · exact lv_if_lt hx hb hd hj' (fun z => absurd z hc) (fun _ => k H locs ls h1 h2 h3)
      · exact lv_if_ge hx hb hd hj' (fun _ => k H locs ls h1 h2 h3) (fun z => absurd hc z)
      · exact lv_if_ge hx hb hd hj' (fun z => absurd z hc) (fun _ => k H locs ls h1 h2 h3)
      · exact lv_if_gt hx hb hd hj' (fun _ => k H locs ls h1 h2 h3) (fun z => absurd hc z)
      · exact lv_if_gt hx hb hd hj' (fun z => absurd z hc) (fun _ => k H locs ls h1 h2 h3)
      · exact lv_if_le hx hb hd hj' (fun _ => k H locs ls h1 h2 h3) (fun z => absurd hc z)
      · exact lv_if_le hx hb hd hj' (fun z => absurd z hc) (fun _ => k H locs ls h1 h2 h3)
  · cases h
theorem ok_icmp {o : Jvm.ClassFile.Cond} {off : Int} (hx : p.tables.exec = Jvm.exec) (hb : c.code = cc) (hd : decode cc pc = .ok (.if_icmp o off, 3)) (hg : GD nL L xs (pc, lo, st, σ)) (h : e_icmp o off pc lo st σ = some q') : OKs p l e R s m args below meth c nc ns Q ad cA D B0 L xs nL (pc, lo, st, σ) q' := by
  unfold e_icmp at h
  split at h
  · split at h
    · cases h
    · rename_i hj
      have hj' := jok_eq hj
      cases o
      all_goals (simp only at h; split at h <;> rename_i hc <;> cases h <;> refine ⟨hg.tail.tail, fun k H locs ls h1 h2 h3 => ?_⟩)
      · exact lv_icmp_eq hx hb hd hj' (fun _ => k H locs ls h1 h2 h3) (fun z => absurd hc z)
      · exact lv_icmp_eq hx hb hd hj' (fun z => absurd z hc) (fun _ => k H locs ls h1 h2 h3)
      · exact lv_icmp_ne hx hb hd hj' (fun z => absurd hc z) (fun _ => k H locs ls h1 h2 h3)
      · exact lv_icmp_ne hx hb hd hj' (fun _ => k H locs ls h1 h2 h3) (fun z => absurd z hc)
      · exact lv_icmp_lt hx hb hd hj' (fun _ => k H locs ls h1 h2 h3) (fun z => absurd hc z)
      · exact lv_icmp_lt hx hb hd hj' (fun z => absurd z hc) (fun _ => k H locs ls h1 h2 h3)
      · exact lv_icmp_ge hx hb hd hj' (fun _ => k H locs ls h1 h2 h3) (fun z => absurd hc z)
      · exact lv_icmp_ge hx hb hd hj' (fun z => absurd z hc) (fun _ => k H locs ls h1 h2 h3)
      · exact lv_icmp_gt hx hb hd hj' (fun _ => k H locs ls h1 h2 h3) (fun z => absurd hc z)
      · exact lv_icmp_gt hx hb hd hj' (fun z => absurd z hc) (fun _ => k H locs ls h1 h2 h3)
      · exact lv_icmp_le hx hb hd hj' (fun _ => k H locs ls h1 h2 h3) (fun z => absurd hc z)
      · exact lv_icmp_le hx hb hd hj' (fun z => absurd z hc) (fun _ => k H locs ls h1 h2 h3)
  · cases h
theorem look_mem {l : List (Nat × Nat × Nat × Nat)} {i : Nat} {r : Nat × Nat} (h : look l i = some r) : ∃ w, (i, r.1, r.2, w) ∈ l := by
  induction l with
  | nil => simp [look] at h
  | cons q t ih =>
    unfold look at h
    split at h
    · rename_i hb
      have := Nat.eq_of_beq_eq_true hb
      cases h
      exact ⟨q.2.2.2, by rw [← this]; exact List.mem_cons_self⟩
    · obtain ⟨w, hw⟩ := ih h
      exact ⟨w, List.mem_cons_of_mem _ hw⟩
theorem lay_in (t : Nat) (ht : t < 12) : ∀ w ∈ u_ws (cR t) (cT t) (cN t), w ∈ TB := by
  intro w hw
  obtain ⟨k, hk, rfl⟩ := List.mem_map.mp hw
  have hk := List.mem_range.mp hk
  refine tb_mem (wl_ok t ht k hk) ?_
  unfold u_lay
  split <;> rfl
theorem fr_at {i u k : Nat} (how : ow < 17) (h : fr ow i = some (u, k)) : Cond.fieldLink (cR ow) i (cT (u - 1) k).1 (cT (u - 1) k).2.1 (cT (u - 1) k).2.2.1 ∈ TB ∧ k < cN (u - 1) ∧ 1 ≤ u ∧ u ≤ 12 := by
  unfold fr at h
  by_cases h12 : 12 ≤ ow
  · rw [fr_law ow how h12] at h
    cases h
  · obtain ⟨w, hw⟩ := look_mem h
    obtain ⟨h1, h2, h3⟩ := fr_ok ow (by omega) _ hw
    exact ⟨tb_mem h1 rfl, h2, h3⟩
theorem ok_get {i : Nat} (X : FX p R s m args c nc ns ad cA D B0 L xs cc nL ow) (hd : decode cc pc = .ok (.getfield i, 3)) (hg : GD nL L xs (pc, lo, st, σ)) (h : e_get ow i pc lo st σ = some q') : OKs p l e R s m args below meth c nc ns Q ad cA D B0 L xs nL (pc, lo, st, σ) q' := by
  obtain ⟨hx, hb, hml, hown, hts, hK, hE, hA, hR, hc1, hc2, how, hL⟩ := X
  unfold e_get at h
  split at h
  · rename_i t a r
    split at h
    · rename_i u k hfr
      obtain ⟨hin, hk, hu1, hu2⟩ := fr_at how hfr
      split at h
      · rename_i hbq
        have htu := Nat.eq_of_beq_eq_true hbq
        subst htu
        obtain ⟨hka, -⟩ := hg.head a rfl
        simp only at hka
        have ha : a < 173 := kd_lt hka (by omega) (by omega)
        have hget : ∀ (v : Value), (if ftg t k = 0 then Value.int (σ a k) else .ref (ad (rt a k))) = v → ∀ (H : Heap) (locs : List Loc) (ls : Array Slot), va_P D cl12 (wsl ad cA σ) H → W p l e R s m args below meth c H locs nc ns Q (F0 m (pc + 3) ls (v :: r.map (cv ad))) → W p l e R s m args below meth c H locs nc ns Q (F0 m pc ls (.ref (ad a) :: r.map (cv ad))) := by
          intro v hv H locs ls hP kk
          have he := wsl_get (ad := ad) (cA := cA) (σ := σ) ha
          rw [cex_obj (by omega)] at he
          refine va_get (C := cR (t - 1)) (T := cT (t - 1)) (N := cN (t - 1)) (ci := kd a - 1) (ref := (cT (t - 1) k).1) hx hb hts (lay_in (t - 1) (by omega)) hown hK hP a he (by rw [hka]; exact cl_at (t - 1) (by omega)) k hk (hts _ hin) (fun _ h9 => h9) (v := v) ?_ hd kk
          rw [fls_get (by rw [hka]; exact hk), hka, hv]
        split at h
        · rename_i hf
          have hf := Nat.eq_of_beq_eq_true hf
          cases h
          exact ⟨hg.tail.push vok_i, fun kk H locs ls h1 h2 h3 => hget _ (if_pos hf) H locs ls h2 (kk H locs ls h1 h2 h3)⟩
        · rename_i hf
          have hf : ¬ ftg t k = 0 := Nat.ne_of_beq_eq_false hf
          cases h
          refine ⟨hg.tail.push ?_, fun kk H locs ls h1 h2 h3 => hget _ (if_neg hf) H locs ls h2 (kk H locs ls h1 h2 h3)⟩
          intro b hb'
          cases hb'
          exact ⟨by have := rt_ok a ha k (by rw [hka]; exact hk) (by omega) (by rw [hka]; exact hf); rw [hka] at this; exact this, hf⟩
      · cases h
    · cases h
  · cases h
theorem ok_put {i : Nat} (X : FX p R s m args c nc ns ad cA D B0 L xs cc nL ow) (hd : decode cc pc = .ok (.putfield i, 3)) (hg : GD nL L xs (pc, lo, st, σ)) (h : e_put ow i pc lo st σ = some q') : OKs p l e R s m args below meth c nc ns Q ad cA D B0 L xs nL (pc, lo, st, σ) q' := by
  obtain ⟨hx, hb, hml, hown, hts, hK, hE, hA, hR, hc1, hc2, how, hL⟩ := X
  unfold e_put at h
  split at h
  · rename_i t' v t a r
    split at h
    · rename_i u k hfr
      obtain ⟨hin, hk, hu1, hu2⟩ := fr_at how hfr
      split at h
      · rename_i hbq
        simp only [Bool.and_eq_true] at hbq
        have htu := Nat.eq_of_beq_eq_true hbq.1
        have hf := Nat.eq_of_beq_eq_true hbq.2
        subst htu
        obtain ⟨hka, -⟩ := hg.tail.head a rfl
        simp only at hka
        have ha : a < 173 := kd_lt hka (by omega) (by omega)
        split at h
        · rename_i hbo
          cases h
          have hne : ∀ q, q ≠ a → up σ a k v q = σ q := fun q hq => up_ne hq
          refine ⟨⟨hg.1, hg.2.1, fun w hw => hg.2.2.1 w (List.mem_cons_of_mem _ (List.mem_cons_of_mem _ hw)), hg.2.2.2.ne ha hne⟩, fun kk H locs ls h1 h2 h3 => ?_⟩
          have he := wsl_get (ad := ad) (cA := cA) (σ := σ) ha
          rw [cex_obj (by omega)] at he
          obtain ⟨hfin, hty⟩ := ft_ok (t - 1) (by omega) k hk (by rw [Nat.sub_add_cancel hu1]; exact hf)
          rw [Nat.sub_add_cancel hu1] at hty
          have key : ∀ ty, parseFieldDescriptor (cT (t - 1) k).2.2.1 = some ty → narrow ty (.int v) = .int v → fits ty (.int v) = true → W p l e R s m args below meth c H locs nc ns Q (F0 m pc ls (.int v :: .ref (ad a) :: r.map (cv ad))) := by
            intro ty hd1 hn1 hf1
            refine va_put (C := cR (t - 1)) (T := cT (t - 1)) (N := cN (t - 1)) (ci := kd a - 1) (ref := (cT (t - 1) k).1) (ty := ty) (v := .int v) hx hb hts (lay_in (t - 1) (by omega)) (cTy (t - 1)) (ft_ty (t - 1) (by omega)) (ft_nm (t - 1) (by omega)) hown hK h2 (wslD hA σ) h3 a he (by rw [hka]; exact cl_at (t - 1) (by omega)) k hk (hts _ hin) (fun _ h9 => h9) hfin hd1 hn1 hf1 (by rw [fls_len, hka]; exact hk) hd (fun H1 locs1 hP1 hD1 hS1 => kk H1 locs1 ls h1 ?_ hS1)
            have hs := wsl_set (ad := ad) (cA := cA) (σ := σ) (σ' := up σ a k v) (c := a) hne
            rw [up_row, cex_obj (by omega), ← fls_set (by rw [hka]; exact hf)] at hs
            rw [hs] at hP1
            exact hP1
          rcases hty with ⟨hb0, h9⟩ | h9
          · exact key _ h9 rfl rfl
          · simp only [Bool.or_eq_true] at hbo
            by_cases h1v : v = 1
            · subst h1v
              exact key _ h9 (by decide) (by decide)
            · rcases hbo with hbo | hbo
              · exact absurd (Nat.eq_of_beq_eq_true hbo) (fb_ok (t - 1) (by omega) k hk (by rw [Nat.sub_add_cancel hu1]; exact hf) h9 |> fun z => by rw [Nat.sub_add_cancel hu1] at z; exact z)
              · exact absurd (by simpa using hbo) h1v
        · cases h
      · cases h
    · cases h
  · cases h
end STP
