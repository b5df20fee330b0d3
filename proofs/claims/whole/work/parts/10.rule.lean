theorem wd_max : lw_tbl[498]? = some (Cond.static Lib.Math.max.name) ∧ lw_tbl[499]? = some (Cond.code Lib.Math.max.name Lib.Math.max.code 2 (some .int)) ∧ lw_tbl[521]? = some (Cond.static Lib.Math.min.name) ∧ lw_tbl[522]? = some (Cond.code Lib.Math.min.name Lib.Math.min.code 2 (some .int)) ∧ lw_tbl[87]? = some (Cond.initialized "java/lang/Math") ∧ lw_tbl[745]? = some (Cond.native arraycopyName) ∧ lw_tbl[744]? = some (Cond.static arraycopyName) ∧ lw_tbl[89]? = some (Cond.initialized "java/lang/System") := by decide +kernel
section STP
variable {p : Program} {l : Launch} {e : Env} {R : Room} {s : State} {m : MethodId} {args : Array Value} {below : List Frame} {meth : Method} {c : Code} {nc ns : Nat} {Q : State → Prop} {ad : Nat → Nat} {cA : Nat → ClassId} {D : va_G} {B0 L : Nat} {xs : Nat → Int32} {cc : ByteArray} {nL ow : Nat}
variable {pc : Nat} {lo : LO} {st : List AV} {σ : Sg} {q' : AS}
theorem ok_ivs {i : Nat} (X : FX p R s m args c nc ns ad cA D B0 L xs cc nL ow) (hd : decode cc pc = .ok (.invokestatic i, 3)) (hg : GD nL L xs (pc, lo, st, σ)) (h : e_ivs ow i pc lo st σ = some q') : OKs p l e R s m args below meth c nc ns Q ad cA D B0 L xs nL (pc, lo, st, σ) q' := by
  obtain ⟨hx, hb, hml, hown, hts, hK, hE, hA, hR, hc1, hc2, how, hL⟩ := X
  obtain ⟨w1, w2, w3, w4, w5, w6, w7, w8⟩ := wd_max
  unfold e_ivs at h
  split at h
  · rename_i y hmr
    obtain ⟨w, hw⟩ := look_mem hmr
    have hlk := (mr_ok3 ow how _ hw).1 rfl
    split at h
    · split at h
      · rename_i hr
        have hr := Nat.le_of_ble_eq_true hr
        cases h
        refine ⟨hg.tail.tail.push vok_i, fun k H locs ls h1 h2 h3 => ?_⟩
        exact va_mmax hx hb (by rw [hml]; exact h1.1.symm) hown (hts _ (tb_mem hlk rfl)) (hts _ (tb_mem w1 rfl)) (hts _ (tb_mem w5 rfl)) (hts _ (tb_mem w2 rfl)) hR.1 (by rw [rcat_map]; omega) hc1 hc2 hd (k H locs ls h1 h2 h3)
      · cases h
    · cases h
  · rename_i y hmr
    obtain ⟨w, hw⟩ := look_mem hmr
    have hlk := (mr_ok3 ow how _ hw).2.1 rfl
    split at h
    · split at h
      · rename_i hr
        have hr := Nat.le_of_ble_eq_true hr
        cases h
        refine ⟨hg.tail.tail.push vok_i, fun k H locs ls h1 h2 h3 => ?_⟩
        exact va_mmin hx hb (by rw [hml]; exact h1.1.symm) hown (hts _ (tb_mem hlk rfl)) (hts _ (tb_mem w3 rfl)) (hts _ (tb_mem w5 rfl)) (hts _ (tb_mem w4 rfl)) hR.1 (by rw [rcat_map]; omega) hc1 hc2 hd (k H locs ls h1 h2 h3)
      · cases h
    · cases h
  · rename_i y hmr
    obtain ⟨w, hw⟩ := look_mem hmr
    have hlk := (mr_ok3 ow how _ hw).2.2 rfl
    split at h
    · rename_i t1 n t2 dp t d t3 sp u a r
      split at h
      · rename_i hr
        simp only [Bool.and_eq_true] at hr
        obtain ⟨ht, hu, hr⟩ := hr
        have ht := Nat.eq_of_beq_eq_true ht
        have hu := Nat.eq_of_beq_eq_true hu
        have hr := Nat.le_of_ble_eq_true hr
        subst ht
        subst hu
        split at h
        · rename_i hk
          unfold cpk at hk
          simp only [Bool.and_eq_true, Bool.not_eq_true', decide_eq_false_iff_not] at hk
          obtain ⟨k1, k2, k3, k4, k5⟩ := hk
          have k4 := Nat.le_of_ble_eq_true k4
          have k5 := Nat.le_of_ble_eq_true k5
          obtain ⟨hkd, -⟩ := hg.tail.tail.head d rfl
          obtain ⟨hka, -⟩ := hg.tail.tail.tail.tail.head a rfl
          simp only at hkd hka
          have hd3 : d < 173 := kd_lt hkd (by omega) (by omega)
          have ha3 : a < 173 := kd_lt hka (by omega) (by omega)
          cases h
          have hne : ∀ q, q ≠ d → cpy σ a d sp.toNatClampNeg dp.toNatClampNeg n.toNatClampNeg q = σ q := fun q hq => cpy_ne hq
          refine ⟨⟨hg.1, hg.2.1, hg.tail.tail.tail.tail.tail.2.2.1, hg.2.2.2.ne hd3 hne⟩, fun k H locs ls h1 h2 h3 => ?_⟩
          have he0 := wsl_get (ad := ad) (cA := cA) (σ := σ) ha3
          have he1 := wsl_get (ad := ad) (cA := cA) (σ := σ) hd3
          rw [cex_arr hka] at he0
          rw [cex_arr hkd] at he1
          refine va_copyi hx hb (by rw [hml]; exact h1.1.symm) hown (hts _ (tb_mem hlk rfl)) (hts _ (tb_mem w6 rfl)) (hts _ (tb_mem w7 rfl)) (hts _ (tb_mem w8 rfl)) hK h2 (wslD hA σ) h3 a d 0 0 (ty := .int) he0 he1 rfl rfl rfl k1 k2 k3 k4 k5 (fun _ _ => rfl) hR.1 (by rw [rcat_map]; have := nfw; omega) hd (fun H1 locs1 hP1 hD1 hS1 => k H1 locs1 ls h1 ?_ hS1)
          have hs := wsl_set (ad := ad) (cA := cA) (σ := σ) (σ' := cpy σ a d sp.toNatClampNeg dp.toNatClampNeg n.toNatClampNeg) (c := d) hne
          rw [cpy_row, cex_arr hkd] at hs
          rw [hs] at hP1
          exact hP1
        · cases h
      · cases h
    · cases h
  · cases h
set_option maxHeartbeats 4000000 in
theorem ex_ok {i : Instr} {len : Nat} (X : FX p R s m args c nc ns ad cA D B0 L xs cc nL ow) (hd : decode cc pc = .ok (i, len)) (hl : (sw_is i || len == il i) = true) (hg : GD nL L xs (pc, lo, st, σ)) (h : ex L ow i pc lo st σ = some q') : OKs p l e R s m args below meth c nc ns Q ad cA D B0 L xs nL (pc, lo, st, σ) q' := by
  obtain ⟨hx, hb, hml, hown, hts, hK, hE, hA, hR, hc1, hc2, how, hL⟩ := id X
  cases i
  all_goals first | exact absurd (show (none : Option AS) = some q' from h) (by simp) | skip
  all_goals first | (have hl := eq_of_beq (show (len == il _) = true from hl); subst hl) | skip
  all_goals (simp only [ex] at h)
  case iconst n => exact ok_push hg h vok_i (fun H locs ls rest k => lv_iconst hx hb hd rfl k)
  case bipush n => exact ok_push hg h vok_i (fun H locs ls rest k => lv_bipush hx hb hd rfl k)
  case sipush n => exact ok_push hg h vok_i (fun H locs ls rest k => lv_sipush hx hb hd rfl k)
  case lconst n => exact ok_push hg h vok_l (fun H locs ls rest k => lv_lconst hx hb hd rfl k)
  case iload_n n =>
    unfold e_iload at h
    split at h
    · rename_i hv; cases h; exact ok_load hg hv (fun H locs ls rest hr k => lv_iload_n hx hb hd rfl hr k)
    · cases h
  case iload n =>
    unfold e_iload at h
    split at h
    · rename_i hv; cases h; exact ok_load hg hv (fun H locs ls rest hr k => lv_iload hx hb hd hr k)
    · cases h
  case lload_n n =>
    unfold e_lload at h
    split at h
    · rename_i hv; cases h; exact ok_load hg hv (fun H locs ls rest hr k => lv_lload_n hx hb hd rfl hr k)
    · cases h
  case lload n =>
    unfold e_lload at h
    split at h
    · rename_i hv; cases h; exact ok_load hg hv (fun H locs ls rest hr k => lv_lload hx hb hd hr k)
    · cases h
  case aload_n n =>
    unfold e_aload at h
    split at h
    · rename_i hv; cases h; exact ok_load hg hv (fun H locs ls rest hr k => lv_aload_n hx hb hd rfl hr k)
    · cases h
  case aload n =>
    unfold e_aload at h
    split at h
    · rename_i hv; cases h; exact ok_load hg hv (fun H locs ls rest hr k => lv_aload hx hb hd hr k)
    · cases h
  case istore_n n =>
    unfold e_istore at h
    split at h
    · split at h
      · rename_i hc; cases h; exact ok_store hg hc (fun H locs ls rest lv hv hi k => lv_istore_n hx hb hd rfl hv hi rfl k)
      · cases h
    · cases h
  case istore n =>
    unfold e_istore at h
    split at h
    · split at h
      · rename_i hc; cases h; exact ok_store hg hc (fun H locs ls rest lv hv hi k => lv_istore hx hb hd hv hi rfl k)
      · cases h
    · cases h
  case astore_n n =>
    unfold e_astore at h
    split at h
    · split at h
      · rename_i hc; cases h; exact ok_store hg hc (fun H locs ls rest lv hv hi k => lv_astore_n hx hb hd rfl hv hi rfl k)
      · cases h
    · cases h
  case astore n =>
    unfold e_astore at h
    split at h
    · split at h
      · rename_i hc; cases h; exact ok_store hg hc (fun H locs ls rest lv hv hi k => lv_astore hx hb hd hv hi rfl k)
      · cases h
    · cases h
  case iinc n k0 =>
    unfold e_iinc at h
    split at h
    · rename_i t x hv
      split at h
      · rename_i hc
        cases h
        have hc' := hc
        simp only [Bool.and_eq_true] at hc'
        have hi : n < nL := by rw [← hg.1, ← lle_len]; simpa [Nat.blt_eq] using hc'.2
        refine ⟨hg.sto vok_i, fun k H locs ls h1 h2 h3 => ?_⟩
        have hm := prs_mem (ad := ad) (j := 0) hv
        rw [Nat.zero_add] at hm
        obtain ⟨kk, hkk⟩ := List.mem_iff_getElem?.mp hm
        exact lv_iinc hx hb hd h1 hkk rfl hi rfl (fun ls' h => k H locs ls' (lv_sto (v := (0, .int (x + Int32.ofInt k0))) hc'.1 h) h2 h3)
      · cases h
    · cases h
  case iadd => exact ok_bin hg h (fun H locs ls rest x y k => lv_iadd hx hb hd k)
  case isub => exact ok_bin hg h (fun H locs ls rest x y k => lv_isub hx hb hd k)
  case imul => exact ok_bin hg h (fun H locs ls rest x y k => lv_imul hx hb hd k)
  case iand => exact ok_bin hg h (fun H locs ls rest x y k => lv_iand hx hb hd k)
  case ior => exact ok_bin hg h (fun H locs ls rest x y k => lv_ior hx hb hd k)
  case ishl => exact ok_bin hg h (fun H locs ls rest x y k => lv_ishl hx hb hd k)
  case ishr => exact ok_bin hg h (fun H locs ls rest x y k => lv_ishr hx hb hd k)
  case iushr => exact ok_bin hg h (fun H locs ls rest x y k => lv_iushr hx hb hd rfl k)
  case idiv => exact ok_div hg h (fun H locs ls rest x y hy k => lv_idiv hx hb hd hy k)
  case irem => exact ok_div hg h (fun H locs ls rest x y hy k => lv_irem hx hb hd hy k)
  case ineg => exact ok_un hg h (fun H locs ls rest x k => lv_ineg hx hb hd k)
  case i2s => exact ok_un hg h (fun H locs ls rest x k => lv_i2s hx hb hd rfl k)
  case i2c => exact ok_un hg h (fun H locs ls rest x k => lv_i2c hx hb hd rfl k)
  case i2l =>
    unfold e_i2l at h
    split at h
    · cases h; exact ⟨hg.tail.push vok_l, fun k H locs ls h1 h2 h3 => lv_i2l hx hb hd rfl (k H locs ls h1 h2 h3)⟩
    · cases h
  case ladd =>
    unfold e_ladd at h
    split at h
    · cases h; exact ⟨hg.tail.tail.push vok_l, fun k H locs ls h1 h2 h3 => lv_ladd hx hb hd (k H locs ls h1 h2 h3)⟩
    · cases h
  case lcmp =>
    unfold e_lcmp at h
    split at h
    · cases h; exact ⟨hg.tail.tail.push vok_i, fun k H locs ls h1 h2 h3 => W.lcmp hx hb hd (k H locs ls h1 h2 h3)⟩
    · cases h
  case dup =>
    unfold e_dup at h
    split at h
    · cases h; exact ⟨hg.push hg.head, fun k H locs ls h1 h2 h3 => lv_dup hx hb hd rfl (k H locs ls h1 h2 h3)⟩
    · cases h; exact ⟨hg.push hg.head, fun k H locs ls h1 h2 h3 => lv_dup hx hb hd rfl (k H locs ls h1 h2 h3)⟩
    · cases h
  case dup2 =>
    unfold e_dup2 at h
    split at h
    · cases h; exact ⟨(hg.push hg.tail.head).push (pc := pc) hg.head, fun k H locs ls h1 h2 h3 => lv_dup2_11 hx hb hd rfl rfl (k H locs ls h1 h2 h3)⟩
    · cases h
  case pop =>
    unfold e_pop at h
    split at h
    · cases h; exact ⟨hg.tail, fun k H locs ls h1 h2 h3 => lv_pop hx hb hd rfl (k H locs ls h1 h2 h3)⟩
    · cases h
  case goto o =>
    unfold e_goto at h
    split at h
    · rename_i hj; cases h; exact ⟨hg, fun k H locs ls h1 h2 h3 => lv_goto hx hb hd (jok_eq hj) (k H locs ls h1 h2 h3)⟩
    · cases h
  case ifCond o k => exact ok_if hx hb hd hg h
  case if_icmp o k => exact ok_icmp hx hb hd hg h
  case tableswitch d a b os => exact ok_tsw hx hb hd hg h
  case lookupswitch d os => exact ok_lsw hx hb hd hg h
  case getfield k => exact ok_get X hd hg h
  case putfield k => exact ok_put X hd hg h
  case iaload => exact ok_ald X hd hg h
  case iastore => exact ok_ast X hd hg h
  case aaload => exact ok_aal X hd hg h
  case arraylength => exact ok_len X hd hg h
  case getstatic k => exact ok_gst X hd hg h
  case ldc k => exact ok_ldc X (Or.inl ⟨rfl, hd⟩) hg h
  case ldc_w k => exact ok_ldc X (Or.inr ⟨rfl, hd⟩) hg h
  case ldc2_w k => exact ok_ldl X hd hg h
  case invokestatic k => exact ok_ivs X hd hg h
theorem fetch_mem {K : List (Nat × Instr × Nat)} {i : Instr} (h : fetch K pc = some i) : ∃ len, (pc, i, len) ∈ K := by
  induction K with
  | nil => simp [fetch] at h
  | cons q t ih =>
    unfold fetch at h
    split at h
    · rename_i hb
      have := Nat.eq_of_beq_eq_true hb
      cases h
      exact ⟨q.2.2, by rw [← this]; exact List.mem_cons_self⟩
    · obtain ⟨w, hw⟩ := ih h
      exact ⟨w, List.mem_cons_of_mem _ hw⟩
theorem ex1_ok {K : List (Nat × Instr × Nat)} {q : AS} (hk : kok cc K) (X : FX p R s m args c nc ns ad cA D B0 L xs cc nL ow) (hg : GD nL L xs q) (h : ex1 L ow K q = some q') : OKs p l e R s m args below meth c nc ns Q ad cA D B0 L xs nL q q' := by
  obtain ⟨pc, lo, st, σ⟩ := q
  unfold ex1 at h
  split at h
  · rename_i i hf
    obtain ⟨len, hm⟩ := fetch_mem hf
    obtain ⟨h1, h2⟩ := hk _ hm
    exact ex_ok X h1 h2 hg h
  · cases h
theorem run_ok {K : List (Nat × Instr × Nat)} (hk : kok cc K) (X : FX p R s m args c nc ns ad cA D B0 L xs cc nL ow) : ∀ (n : Nat) (q q' : AS), GD nL L xs q → run L ow K n q = some q' → OKs p l e R s m args below meth c nc ns Q ad cA D B0 L xs nL q q' := by
  intro n
  induction n with
  | zero => intro q q' hg h; exact ex1_ok hk X hg h
  | succ n ih =>
    intro q q' hg h
    unfold run at h
    split at h
    · rename_i q1 h1
      obtain ⟨g1, k1⟩ := ex1_ok (l := l) (e := e) (below := below) (meth := meth) (Q := Q) hk X hg h1
      obtain ⟨g2, k2⟩ := ih q1 q' g1 h
      exact ⟨g2, fun k => k1 (k2 k)⟩
    · cases h
end STP
