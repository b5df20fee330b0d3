abbrev GP : Type := Launch × (Nat → Nat) × (Nat → ClassId) × va_G × Nat × Nat × (Nat → Int32)
abbrev gl (g : GP) : Launch := g.1
abbrev ga (g : GP) : Nat → Nat := g.2.1
abbrev gc (g : GP) : Nat → ClassId := g.2.2.1
abbrev gD (g : GP) : va_G := g.2.2.2.1
abbrev gB (g : GP) : Nat := g.2.2.2.2.1
abbrev gL (g : GP) : Nat := g.2.2.2.2.2.1
abbrev gx (g : GP) : Nat → Int32 := g.2.2.2.2.2.2
def rmD (d : Nat) : Room := { frames := d, cells := 0, slots := 0, locals := 64 * d }
def OQ (g : GP) (r : Option Int32) (σ' : Sg) : Array Value → State → Outcome → State → Prop := fun _ st oc t => oc = .returned (r.map Value.int) ∧ SX (gL g) (gx g) σ' ∧ va_P (gD g) cl12 (wsl (ga g) (gc g) σ') t.heap ∧ va_F (fun q => gB g ≤ q) st t
def OP (g : GP) (as : List AV) (σ : Sg) : Array Value → State → Prop := va_Pc (as.map (cv (ga g))) (fun U => va_P (gD g) cl12 (wsl (ga g) (gc g) σ) U.heap ∧ va_K (gD g) cl12 (tysL (gc g)) U ∧ EX (ga g) (gB g) (gL g) (gx g) U U.heap)
def Ok (g : GP) (d m : Nat) (as : List AV) (σ : Sg) (r : Option Int32) (σ' : Sg) : Prop := ADok (ga g) (gB g) → gL g < 2 ^ 31 → (∀ v ∈ as, vok v) → SX (gL g) (gx g) σ → Met (gl g) (mY m) (mW m) (rmD d) (OP g as σ) (OQ g r σ') 0 0 (fun q => gB g ≤ q)
def rp (r : Option Int32) : List AV := match r with
  | some v => [(0, .int v)]
  | none => []
theorem rp_map {ad : Nat → Nat} {r : Option Int32} {rest : List AV} : (rp r ++ rest).map (cv ad) = (r.map Value.int).toList ++ rest.map (cv ad) := by
  cases r <;> rfl
theorem rp_vok {r : Option Int32} : ∀ v ∈ rp r, vok v := by
  cases r with
  | none => intro v h; cases h
  | some x => intro v h; rw [List.mem_singleton.mp h]; exact vok_i
theorem OP_blind {g : GP} {as : List AV} {σ : Sg} : FrameBlind (OP g as σ) := by
  intro a U f mk q
  obtain ⟨q0, qP, qK, qE⟩ := q
  refine ⟨q0, qP, va_K.moved (u := U) (U := U.calling f mk a) (Vm.Alike.refl U.vm) qK, ?_⟩
  obtain ⟨h1, h2, h3, ⟨h4, h5, h6⟩, ⟨adV, h7⟩, h8, h9⟩ := qE
  have ha : U.vm.Alike (U.calling f mk a).vm := Vm.Alike.refl U.vm
  refine ⟨fun j hj => ⟨(h1 j hj).1.moved ha, (h1 j hj).2.moved ha⟩, fun j hj => (h2 j hj).same rfl, ?_, ⟨h4.moved ha, h5, h6⟩, ⟨adV, h7.moved ha⟩, h8.moved ha, h9.moved ha⟩
  intro w hw
  have h3' := h3 w hw
  simp only [NW, List.mem_cons, List.not_mem_nil, or_false] at hw
  rcases hw with rfl | rfl | rfl | rfl <;> exact va_Nw.same rfl rfl h3'
theorem goodTB (m : Nat) (hm : m < 263) : GoodIn TB (mW m) := by
  intro w hw
  rcases List.mem_cons.mp hw with rfl | h
  · exact ⟨List.mem_filter.mpr ⟨mt_code m hm, rfl⟩, good_of_word rfl⟩
  · exact ⟨h, good_of_word (List.mem_filter.mp h).2⟩
section CLL
variable {g : GP} {p : Program} {e : Env} {R : Room} {s : State} {m : MethodId} {args : Array Value} {below : List Frame} {meth : Method} {c : Code} {nc ns : Nat} {Q : State → Prop} {cc : ByteArray} {nL ow : Nat}
variable {pc : Nat} {lo : LO} {st rest : List AV} {σ σ1 : Sg} {r : Option Int32} {d mm i : Nat} {K : List (Nat × Instr × Nat)}
theorem wt_after (X : FX p R s m args c nc ns (ga g) (gc g) (gD g) (gB g) (gL g) (gx g) cc nL ow) (hg : GD nL (gL g) (gx g) (pc, lo, rest, σ)) {st0 : List Value} {a : Array Value}
    (hr : ∀ (H : Heap) (locs : List Loc) (ls : Array Slot), lv_has ls nL (prs (ga g) 0 lo) → va_P (gD g) cl12 (wsl (ga g) (gc g) σ) H → va_S (fun x => gB g ≤ x) s.heap H locs → va_Run p (gl g) e R s m args below meth c H locs nc ns 0 0 (F0 m pc ls st0) (rest.map (cv (ga g))) (OQ g r σ1 a) (fun q => gB g ≤ q)) :
    (GD nL (gL g) (gx g) (pc + 3, lo, rp r ++ rest, σ1) → WT p (gl g) e R s m args below meth c nc ns Q (ga g) (gc g) (gD g) (gB g) nL (pc + 3, lo, rp r ++ rest, σ1)) → ∀ (H : Heap) (locs : List Loc) (ls : Array Slot), lv_has ls nL (prs (ga g) 0 lo) → va_P (gD g) cl12 (wsl (ga g) (gc g) σ) H → va_S (fun x => gB g ≤ x) s.heap H locs → W p (gl g) e R s m args below meth c H locs nc ns Q (F0 m pc ls st0) := by
  intro k H locs ls h1 h2 h3
  have hr := hr H locs ls h1 h2 h3
  intro T hT X1
  obtain ⟨v, st₀, t, T', L1, h0, X', hL1, e1, e2, ⟨hv, hSX, hb, hz, hkk⟩, stp⟩ := hr T hT X1
  rw [h0] at hz hkk
  have hv : v = r.map Value.int := by
    have := hv; simpa using this
  subst hv
  have gd : GD nL (gL g) (gx g) (pc + 3, lo, rp r ++ rest, σ1) := ⟨hg.1, hg.2.1, fun v hv => by
    rcases List.mem_append.mp hv with h | h
    · exact rp_vok v h
    · exact hg.2.2.1 v h, hSX⟩
  have k1 := k gd T'.heap (locs ++ L1) ls h1 (by rw [e1]; exact hb)
    ⟨Nat.le_trans h3.1 (by rw [e1]; exact hz), fun q q1 q2 => by rw [e1, hkk q (Nat.lt_of_lt_of_le q1 h3.1) q2]; exact h3.2.1 q q1 q2, fun q hq => by
      rcases List.mem_append.mp hq with h | h
      · exact h3.2.2 q h
      · exact hL1 q h⟩ T' rfl X'
  obtain ⟨t2, a1, b1⟩ := k1
  rw [rp_map] at a1
  exact ⟨t2, stp t2 a1, b1⟩
theorem ex_U (X : FX p R s m args c nc ns (ga g) (gc g) (gD g) (gB g) (gL g) (gx g) cc nL ow) {H : Heap} {locs : List Loc} (h2 : va_P (gD g) cl12 (wsl (ga g) (gc g) σ) H) (h3 : va_S (fun x => gB g ≤ x) s.heap H locs) {as : List AV} : ∀ U : State, U.heap = H → s.WarmedH U.vm → OP g as σ (as.map (cv (ga g))).toArray U := by
  obtain ⟨hx, hb, hml, hown, hts, hK, hE, hA, hR, hc1, hc2, how, hL⟩ := X
  intro U hU hW
  refine ⟨rfl, by rw [hU]; exact h2, va_K.moved hW.alike hK, ?_⟩
  refine hE.go hW (by rw [hU]; exact h3.1) (fun a q1 q2 => by rw [hU]; exact h3.2.1 a q1 q2)
theorem wt_callV0 (X : FX p R s m args c nc ns (ga g) (gc g) (gD g) (gB g) (gL g) (gx g) cc nL ow) (hk : kok cc K) (hf : fetch K pc = some (.invokevirtual i)) (hm : mr ow i = some (0, mm)) {t a : Nat} {as : List AV} (hst : st = as.reverse ++ (t, .ref a) :: rest) (hrc : ∀ (H : Heap) (locs : List Loc), va_P (gD g) cl12 (wsl (ga g) (gc g) σ) H → va_S (fun x => gB g ≤ x) s.heap H locs → ∃ cell : Cell, H[ga g a]? = some cell ∧ cell.vm.isStatics = false ∧ s.vm.findClass (mY mm).cls = some cell.cls) (hn : as.length + 1 = (mA mm).length) (hr : rcat rest ≤ 8) (hR : d + 1 ≤ R.frames ∧ 64 * (d + 1) ≤ R.locals) (hg : GD nL (gL g) (gx g) (pc, lo, st, σ)) (hO : Ok g d mm ((t, .ref a) :: as) σ r σ1) :
    (GD nL (gL g) (gx g) (pc + 3, lo, rp r ++ rest, σ1) → WT p (gl g) e R s m args below meth c nc ns Q (ga g) (gc g) (gD g) (gB g) nL (pc + 3, lo, rp r ++ rest, σ1)) → (WT p (gl g) e R s m args below meth c nc ns Q (ga g) (gc g) (gD g) (gB g) nL (pc, lo, st, σ)) := by
  obtain ⟨hx, hb, hml, hown, hts, hK, hE, hA, hR0, hc1, hc2, how, hL⟩ := id X
  obtain ⟨len, hmem⟩ := fetch_mem hf
  obtain ⟨hd, hlen⟩ := hk _ hmem
  have hlen := eq_of_beq (show (len == il (.invokevirtual i)) = true from hlen)
  subst hlen
  subst hst
  obtain ⟨w, hw⟩ := look_mem hm
  have hlink := mr_ok0 ow how _ hw rfl
  obtain ⟨hstt, hini⟩ := mr_ok0s ow how _ hw rfl
  have hlt := mr_lt ow how _ hw
  simp only at hlink hstt hini hlt
  obtain ⟨i1, i2, i3, i4⟩ := mt_init mm hlt
  have hdesc := mt_desc mm hlt
  have hinst := mt_stat mm hlt
  rw [hstt] at hdesc hinst
  simp only [Bool.false_eq_true, if_false] at hdesc hinst
  have hsel : lw_tbl[wSl.getD mm 0]? = some (Cond.selects (mY mm).cls (mY mm) (mY mm)) := by
    rcases mt_sel mm hlt with h | h | h
    · rw [hstt] at h; cases h
    · exact absurd h hini
    · exact h
  have hv : ∀ v ∈ ((t, Value.ref a) :: as : List AV), vok v := by
    intro v hv
    apply hg.2.2.1
    rcases List.mem_cons.mp hv with rfl | h
    · simp
    · simp [h]
  have hM := hO hA hL hv hg.2.2.2
  refine (fun z k H locs ls h1 h2 h3 => z k H locs ls h1 h2 h3) (wt_after (e := e) (below := below) (meth := meth) (Q := Q) (pc := pc) (rest := rest) (r := r) (σ1 := σ1) (st0 := (as.reverse ++ (t, Value.ref a) :: rest).map (cv (ga g))) (a := (Value.ref (ga g a) :: as.map (cv (ga g))).toArray) X ⟨hg.1, hg.2.1, fun v hv => hg.2.2.1 v (List.mem_append_right _ (List.mem_cons_of_mem _ hv)), hg.2.2.2⟩ ?_)
  · intro H locs ls h1 h2 h3
    have hrecv := hrc H locs h2 h3
    refine va_runV (n := as.length) (As := as.map (cv (ga g))) ⟨hx, hb, hml, hown, hts⟩ hM (cwV (ws' := TB) as.length hts ?_ rfl rfl rfl ⟨rfl, i4.1, i4.2, ?_⟩ ⟨?_, ?_⟩) ⟨OP_blind, hrecv, ?_⟩ rfl (by simp) h1.1 ?_ ?_ hd ⟨by omega, by omega⟩
    · intro w hw
      simp only [wsV, List.cons_append, List.nil_append, List.mem_cons] at hw
      rcases hw with rfl | rfl | rfl | rfl | hw
      · exact ⟨tb_mem hlink rfl, good_of_word rfl⟩
      · exact ⟨tb_mem hinst rfl, good_of_word rfl⟩
      · exact ⟨tb_mem hsel rfl, good_of_word rfl⟩
      · exact ⟨tb_mem i1 rfl, good_of_word rfl⟩
      · exact goodTB mm hlt w hw
    · rw [hdesc]; congr 1; omega
    · exact hR.1
    · show 8 + (mL mm + 11) + 64 * d ≤ R.locals
      omega
    · have := ex_U X h2 h3 (as := (t, Value.ref a) :: as)
      simpa [cv] using this
    · simp [cv, List.map_reverse]
    · show 2 * 0 + ((rest.map (cv (ga g))).map fun v => v.category).sum ≤ 8
      rw [rcat_map]; omega
theorem wt_callV (X : FX p R s m args c nc ns (ga g) (gc g) (gD g) (gB g) (gL g) (gx g) cc nL ow) (hk : kok cc K) (hf : fetch K pc = some (.invokevirtual i)) (hm : mr ow i = some (0, mm)) {t a : Nat} {as : List AV} (hst : st = as.reverse ++ (t, .ref a) :: rest) (ht : t = mO mm + 1) (ht2 : t ≤ 12) (hn : as.length + 1 = (mA mm).length) (hr : rcat rest ≤ 8) (hR : d + 1 ≤ R.frames ∧ 64 * (d + 1) ≤ R.locals) (hg : GD nL (gL g) (gx g) (pc, lo, st, σ)) (hO : Ok g d mm ((t, .ref a) :: as) σ r σ1) :
    (GD nL (gL g) (gx g) (pc + 3, lo, rp r ++ rest, σ1) → WT p (gl g) e R s m args below meth c nc ns Q (ga g) (gc g) (gD g) (gB g) nL (pc + 3, lo, rp r ++ rest, σ1)) → (WT p (gl g) e R s m args below meth c nc ns Q (ga g) (gc g) (gD g) (gB g) nL (pc, lo, st, σ)) := by
  refine wt_callV0 X hk hf hm hst ?_ hn hr hR hg hO
  intro H locs h2 h3
  obtain ⟨hx, hb, hml, hown, hts, hK, hE, hA, hR0, hc1, hc2, how, hL⟩ := id X
  obtain ⟨w, hw⟩ := look_mem hm
  have hlt := mr_lt ow how _ hw
  obtain ⟨i1, i2, i3, i4⟩ := mt_init mm hlt
  have hka := (hg.2.2.1 (t, .ref a) (by rw [hst]; simp) a rfl).1
  simp only at hka
  have ha : a < 173 := kd_lt hka (by omega) (by omega)
  have he := wsl_get (ad := ga g) (cA := gc g) (σ := σ) ha
  rw [cex_obj (by omega), hka] at he
  have hrecv := va_recv hK h2 (cl_at (t - 1) (by omega)) he
  have hcls : cR (t - 1) = (mY mm).cls := by rw [i2]; congr 1; omega
  simp only [hcls] at hrecv
  exact hrecv
theorem kd_30 {a : Nat} (h : kd a = 30) : ∃ j, j < 4 ∧ a = 950 + j := by
  by_cases hc : a < 173
  · have := kd_in a hc; omega
  · unfold kd at h
    have hb : Nat.blt a 173 = false := by
      cases hb : Nat.blt a 173 with
      | false => rfl
      | true => exact absurd (by simpa [Nat.blt_eq] using hb) hc
    rw [hb] at h
    simp only at h
    split at h
    · omega
    · split at h
      · exact ⟨a - 950, by omega, by omega⟩
      · split at h <;> omega
theorem wt_callT (X : FX p R s m args c nc ns (ga g) (gc g) (gD g) (gB g) (gL g) (gx g) cc nL ow) (hk : kok cc K) (hf : fetch K pc = some (.invokevirtual i)) (hm : mr ow i = some (0, mm)) {a : Nat} {as : List AV} (hst : st = as.reverse ++ (30, .ref a) :: rest) (ht : mO mm = 13) (hn : as.length + 1 = (mA mm).length) (hr : rcat rest ≤ 8) (hR : d + 1 ≤ R.frames ∧ 64 * (d + 1) ≤ R.locals) (hg : GD nL (gL g) (gx g) (pc, lo, st, σ)) (hO : Ok g d mm ((30, .ref a) :: as) σ r σ1) :
    (GD nL (gL g) (gx g) (pc + 3, lo, rp r ++ rest, σ1) → WT p (gl g) e R s m args below meth c nc ns Q (ga g) (gc g) (gD g) (gB g) nL (pc + 3, lo, rp r ++ rest, σ1)) → (WT p (gl g) e R s m args below meth c nc ns Q (ga g) (gc g) (gD g) (gB g) nL (pc, lo, st, σ)) := by
  refine wt_callV0 X hk hf hm hst ?_ hn hr hR hg hO
  intro H locs h2 h3
  obtain ⟨hx, hb, hml, hown, hts, hK, hE, hA, hR0, hc1, hc2, how, hL⟩ := id X
  obtain ⟨w, hw⟩ := look_mem hm
  have hlt := mr_lt ow how _ hw
  obtain ⟨i1, i2, i3, i4⟩ := mt_init mm hlt
  have hka := (hg.2.2.1 (30, .ref a) (by rw [hst]; simp) a rfl).1
  simp only at hka
  obtain ⟨j, hj, rfl⟩ := kd_30 hka
  obtain ⟨-, -, -, -, ⟨adV, h7⟩, -⟩ := hE
  have := vk_recv h7 hj h3
  rw [i2, ht]
  exact this
theorem wt_callS (X : FX p R s m args c nc ns (ga g) (gc g) (gD g) (gB g) (gL g) (gx g) cc nL ow) (hk : kok cc K) (hf : fetch K pc = some (.invokestatic i)) {kk : Nat} (hm : mr ow i = some (kk, mm)) (hkk : kk = 1 ∨ kk = 2) {as : List AV} (hst : st = as.reverse ++ rest) (hn : as.length = (mA mm).length) (hr : rcat rest ≤ 8) (hR : d + 1 ≤ R.frames ∧ 64 * (d + 1) ≤ R.locals) (hg : GD nL (gL g) (gx g) (pc, lo, st, σ)) (hO : Ok g d mm as σ r σ1) :
    (GD nL (gL g) (gx g) (pc + 3, lo, rp r ++ rest, σ1) → WT p (gl g) e R s m args below meth c nc ns Q (ga g) (gc g) (gD g) (gB g) nL (pc + 3, lo, rp r ++ rest, σ1)) → (WT p (gl g) e R s m args below meth c nc ns Q (ga g) (gc g) (gD g) (gB g) nL (pc, lo, st, σ)) := by
  obtain ⟨hx, hb, hml, hown, hts, hK, hE, hA, hR0, hc1, hc2, how, hL⟩ := id X
  obtain ⟨len, hmem⟩ := fetch_mem hf
  obtain ⟨hd, hlen⟩ := hk _ hmem
  have hlen := eq_of_beq (show (len == il (.invokestatic i)) = true from hlen)
  subst hlen
  subst hst
  obtain ⟨w, hw⟩ := look_mem hm
  have h1' := mr_ok1 ow how _ hw
  have h2' := mr_ok2 ow how _ hw
  have hlt := mr_lt ow how _ hw
  have hstt := mr_ok12 ow how _ hw hkk
  simp only at h1' h2' hlt hstt
  obtain ⟨i1, i2, i3, i4⟩ := mt_init mm hlt
  have hdesc := mt_desc mm hlt
  have hstat := mt_stat mm hlt
  rw [hstt] at hdesc hstat
  simp only [if_true] at hdesc hstat
  have hv : ∀ v ∈ as, vok v := fun v hv => hg.2.2.1 v (List.mem_append_left _ (List.mem_reverse.mpr hv))
  have hM := hO hA hL hv hg.2.2.2
  have hdd : (mY mm).cls ≠ "java/lang/invoke/MethodHandle" ∧ (mY mm).cls ≠ "java/lang/invoke/VarHandle" ∧ (parseMethodDescriptor (mY mm).desc).map (fun d => d.parameters.length) = some as.length := ⟨i4.1, i4.2, by rw [hdesc, hn]; rfl⟩
  have hRR : (rmD d).frames + 1 ≤ R.frames ∧ 8 + (mL mm + 11) + (rmD d).locals ≤ R.locals := ⟨hR.1, by show 8 + (mL mm + 11) + 64 * d ≤ R.locals; omega⟩
  refine (fun z k H locs ls h1 h2 h3 => z k H locs ls h1 h2 h3) (wt_after (e := e) (below := below) (meth := meth) (Q := Q) (pc := pc) (rest := rest) (r := r) (σ1 := σ1) (st0 := (as.reverse ++ rest).map (cv (ga g))) (a := (as.map (cv (ga g))).toArray) X ⟨hg.1, hg.2.1, fun v hv => hg.2.2.1 v (List.mem_append_right _ hv), hg.2.2.2⟩ ?_)
  · intro H locs ls h1 h2 h3
    have hpre : PreS s H (OP g as σ) (as.map (cv (ga g))) := ⟨OP_blind, ex_U X h2 h3⟩
    have hstk : ((as.reverse ++ rest).map (cv (ga g))) = (as.map (cv (ga g))).reverse ++ rest.map (cv (ga g)) := by simp [List.map_reverse]
    have hroom : 2 * 0 + ((rest.map (cv (ga g))).map fun v => v.category).sum ≤ 8 := by rw [rcat_map]; omega
    rcases hkk with rfl | rfl
    · refine va_runS (n := as.length) (As := as.map (cv (ga g))) ⟨hx, hb, hml, hown, hts⟩ hM ⟨callB_of (ws' := TB) as.length hts (goodTB mm hlt) rfl rfl rfl (hts _ (tb_mem i1 rfl)) (hts _ (tb_mem (h1' rfl) rfl)) hdd hRR, hts _ (tb_mem hstat rfl)⟩ hpre rfl (by simp) h1.1 hstk hroom hd ⟨by omega, by omega⟩
    · refine va_runSN (n := as.length) (As := as.map (cv (ga g))) ⟨hx, hb, hml, hown, hts⟩ hM ⟨va_cnB (ws' := TB) as.length hts (goodTB mm hlt) rfl rfl rfl (hE.2.2.1 _ (h2' rfl)) (hts _ (tb_mem i1 rfl)) hdd hRR, hts _ (tb_mem hstat rfl), trivial⟩ hpre rfl (by simp) h1.1 hstk hroom hd ⟨by omega, by omega⟩
end CLL
