theorem kr_ok : ∀ ow, ow < 17 → ∀ q ∈ krl.getD ow [], lw_tbl[q.2.2]? = some (Cond.constant (cR ow) q.1 q.2.1) := by decide +kernel
theorem lr_ok : ∀ ow, ow < 17 → ∀ q ∈ lrl.getD ow [], lw_tbl[q.2.2]? = some (Cond.constantLong (cR ow) q.1 q.2.1) := by decide +kernel
theorem gr_ok1 : ∀ ow, ow < 17 → ∀ q ∈ grl.getD ow [], q.2.1 < 4 ∧ (if q.2.2.1 = 0 then lw_tbl[q.2.2.2]? = some (Cond.fieldLink (cR ow) q.1 RX10 (snm q.2.1) "[I") else Cond.fieldLinkNest (cR ow) q.1 RX10 (snm q.2.1) "[I" RX10 ∈ NW) := by decide +kernel
theorem sr_ok : ∀ ow, ow < 17 → ∀ q ∈ srl.getD ow [], q.2.1 < 4 ∧ ow = 3 ∧ q.1 = six q.2.1 := by decide +kernel
theorem mr_ok3 : ∀ ow, ow < 17 → ∀ q ∈ mrl.getD ow [], (q.2.1 = 3 → lw_tbl[q.2.2.2]? = some (Cond.methodLink (cR ow) q.1 Lib.Math.max.name)) ∧ (q.2.1 = 4 → lw_tbl[q.2.2.2]? = some (Cond.methodLink (cR ow) q.1 Lib.Math.min.name)) ∧ (q.2.1 = 5 → lw_tbl[q.2.2.2]? = some (Cond.methodLink (cR ow) q.1 arraycopyName)) := by decide +kernel
theorem lookK_mem {l : List (Nat × Int32 × Nat)} {i : Nat} {r : Int32} (h : lookK l i = some r) : ∃ w, (i, r, w) ∈ l := by
  induction l with
  | nil => simp [lookK] at h
  | cons q t ih =>
    unfold lookK at h
    split at h
    · rename_i hb
      have := Nat.eq_of_beq_eq_true hb
      cases h
      exact ⟨q.2.2, by rw [← this]; exact List.mem_cons_self⟩
    · obtain ⟨w, hw⟩ := ih h
      exact ⟨w, List.mem_cons_of_mem _ hw⟩
theorem lookL_mem {l : List (Nat × Int64 × Nat)} {i : Nat} {r : Int64} (h : lookL l i = some r) : ∃ w, (i, r, w) ∈ l := by
  induction l with
  | nil => simp [lookL] at h
  | cons q t ih =>
    unfold lookL at h
    split at h
    · rename_i hb
      have := Nat.eq_of_beq_eq_true hb
      cases h
      exact ⟨q.2.2, by rw [← this]; exact List.mem_cons_self⟩
    · obtain ⟨w, hw⟩ := ih h
      exact ⟨w, List.mem_cons_of_mem _ hw⟩
theorem lookS_mem {l : List (Nat × Nat × Nat)} {i : Nat} {r : Nat} (h : lookS l i = some r) : ∃ w, (i, r, w) ∈ l := by
  induction l with
  | nil => simp [lookS] at h
  | cons q t ih =>
    unfold lookS at h
    split at h
    · rename_i hb
      have := Nat.eq_of_beq_eq_true hb
      cases h
      exact ⟨q.2.2, by rw [← this]; exact List.mem_cons_self⟩
    · obtain ⟨w, hw⟩ := ih h
      exact ⟨w, List.mem_cons_of_mem _ hw⟩
theorem kd_32 {c : Nat} (h : kd c = 32) : ∃ j, j < 4 ∧ c = 900 + j := by
  by_cases hc : c < 173
  · have := kd_in c hc; omega
  · unfold kd at h
    have hb : Nat.blt c 173 = false := by
      cases hb : Nat.blt c 173 with
      | false => rfl
      | true => exact absurd (by simpa [Nat.blt_eq] using hb) hc
    rw [hb] at h
    simp only at h
    split at h
    · exact ⟨c - 900, by omega, by omega⟩
    · split at h
      · omega
      · split at h <;> omega
theorem kd_33 {c : Nat} (h : kd c = 33) : c = 990 := by
  by_cases hc : c < 173
  · have := kd_in c hc; omega
  · unfold kd at h
    have hb : Nat.blt c 173 = false := by
      cases hb : Nat.blt c 173 with
      | false => rfl
      | true => exact absurd (by simpa [Nat.blt_eq] using hb) hc
    rw [hb] at h
    simp only at h
    split at h
    · omega
    · split at h
      · omega
      · split at h <;> omega
theorem aln_ext {L j : Nat} (hj : j < 4) : aln L (900 + j) = aln 0 (900 + j) := by
  match j, hj with
  | 0, _ => rfl
  | 1, _ => rfl
  | 2, _ => rfl
  | 3, _ => rfl
theorem rcat_map {ad : Nat → Nat} {r : List AV} : (((r.map (cv ad)).map fun v => v.category).sum) = rcat r := by
  induction r with
  | nil => rfl
  | cons q r ih =>
    have hc : (cv ad q).category = q.2.category := by
      obtain ⟨t, v⟩ := q
      cases v <;> rfl
    simp only [List.map_cons, List.sum_cons, rcat, ih, hc]
theorem nfw : nativeFrameWords "java/lang/System" "arraycopy" 5 + 11 ≤ 56 := by decide +kernel
section STP
variable {p : Program} {l : Launch} {e : Env} {R : Room} {s : State} {m : MethodId} {args : Array Value} {below : List Frame} {meth : Method} {c : Code} {nc ns : Nat} {Q : State → Prop} {ad : Nat → Nat} {cA : Nat → ClassId} {D : va_G} {B0 L : Nat} {xs : Nat → Int32} {cc : ByteArray} {nL ow : Nat}
variable {pc : Nat} {lo : LO} {st : List AV} {σ : Sg} {q' : AS}
theorem swT_ok {x : Int32} {d b : Int} {r : List AV} : ∀ (os : List Int) (a : Int), a + (os.length : Int) = b + 1 → swT x a d pc lo r σ os = some q' → ∃ o, q' = (jt pc o, lo, r, σ) ∧ jok pc o = true ∧ ((a ≤ x.toInt ∧ x.toInt ≤ b ∧ os[(x.toInt - a).toNat]? = some o) ∨ ((x.toInt < a ∨ b < x.toInt) ∧ o = d)) := by
  intro os
  induction os with
  | nil =>
    intro a hb h
    unfold swT at h
    split at h
    · rename_i hj
      cases h
      refine ⟨d, rfl, hj, Or.inr ⟨?_, rfl⟩⟩
      simp at hb; omega
    · cases h
  | cons o os ih =>
    intro a hb h
    unfold swT at h
    simp only [List.length_cons] at hb
    split at h
    · rename_i hx
      split at h
      · rename_i hj
        cases h
        refine ⟨o, rfl, hj, Or.inl ⟨by omega, by omega, ?_⟩⟩
        rw [hx]; simp
      · cases h
    · rename_i hx
      obtain ⟨o', h1, h2, h3⟩ := ih (a + 1) (by push_cast at hb ⊢; omega) h
      refine ⟨o', h1, h2, ?_⟩
      rcases h3 with ⟨h4, h5, h6⟩ | ⟨h4, h5⟩
      · refine Or.inl ⟨by omega, h5, ?_⟩
        have : (x.toInt - a).toNat = (x.toInt - (a + 1)).toNat + 1 := by omega
        rw [this]; simpa using h6
      · refine Or.inr ⟨?_, h5⟩
        omega
theorem ok_tsw {d a b : Int} {os : Array Int} {len : Nat} (hx : p.tables.exec = Jvm.exec) (hb : c.code = cc) (hd : decode cc pc = .ok (.tableswitch d a b os, len)) (hg : GD nL L xs (pc, lo, st, σ)) (h : e_tsw d a b os pc lo st σ = some q') : OKs p l e R s m args below meth c nc ns Q ad cA D B0 L xs nL (pc, lo, st, σ) q' := by
  unfold e_tsw at h
  split at h
  · rename_i t x r
    split at h
    · rename_i hlen
      obtain ⟨o, rfl, hj, h1⟩ := swT_ok os.toList a (of_decide_eq_true hlen) h
      refine ⟨hg.tail, fun k H locs ls h2 h3 h4 => ?_⟩
      rcases h1 with ⟨h5, h6, h7⟩ | ⟨h5, rfl⟩
      · exact lv_tableIn hx hb hd (by omega) (by omega) (by simpa using h7) (jok_eq hj) (k H locs ls h2 h3 h4)
      · exact lv_tableOut hx hb hd h5 (jok_eq hj) (k H locs ls h2 h3 h4)
    · cases h
  · cases h
theorem swL_ok {x : Int32} {d : Int} {r : List AV} : ∀ (os : List (Int × Int)), swL x d pc lo r σ os = some q' → q' = (jt pc (Op.lookupswitch.offset os d x.toInt), lo, r, σ) ∧ jok pc (Op.lookupswitch.offset os d x.toInt) = true := by
  intro os
  induction os with
  | nil =>
    intro h
    unfold swL at h
    split at h
    · rename_i hj
      cases h
      exact ⟨rfl, hj⟩
    · cases h
  | cons o os ih =>
    intro h
    obtain ⟨o1, o2⟩ := o
    unfold swL at h
    split at h
    · rename_i hx
      have e1 : Op.lookupswitch.offset ((o1, o2) :: os) d x.toInt = o2 := by
        simp only at hx
        unfold Op.lookupswitch.offset
        simp [hx]
      rw [e1]
      split at h
      · rename_i hj
        cases h
        exact ⟨rfl, hj⟩
      · cases h
    · rename_i hx
      have e1 : Op.lookupswitch.offset ((o1, o2) :: os) d x.toInt = Op.lookupswitch.offset os d x.toInt := by
        simp only at hx
        rw [Op.lookupswitch.offset]
        simp
        exact fun z => absurd z.symm hx
      rw [e1]
      exact ih h
theorem ok_lsw {d : Int} {os : Array (Int × Int)} {len : Nat} (hx : p.tables.exec = Jvm.exec) (hb : c.code = cc) (hd : decode cc pc = .ok (.lookupswitch d os, len)) (hg : GD nL L xs (pc, lo, st, σ)) (h : e_lsw d os pc lo st σ = some q') : OKs p l e R s m args below meth c nc ns Q ad cA D B0 L xs nL (pc, lo, st, σ) q' := by
  unfold e_lsw at h
  split at h
  · rename_i t x r
    split at h
    · rename_i hlen
      obtain ⟨rfl, hj⟩ := swL_ok os.toList h
      exact ⟨hg.tail, fun k H locs ls h2 h3 h4 => lv_lookup hx hb hd hlen rfl (jok_eq hj) (k H locs ls h2 h3 h4)⟩
    · cases h
  · cases h
theorem ok_ald (X : FX p R s m args c nc ns ad cA D B0 L xs cc nL ow) (hd : decode cc pc = .ok (.iaload, 1)) (hg : GD nL L xs (pc, lo, st, σ)) (h : e_ald L pc lo st σ = some q') : OKs p l e R s m args below meth c nc ns Q ad cA D B0 L xs nL (pc, lo, st, σ) q' := by
  obtain ⟨hx, hb, hml, hown, hts, hK, hE, hA, hR, hc1, hc2, how, hL⟩ := X
  unfold e_ald at h
  split at h
  · rename_i t' i t a r
    obtain ⟨hka, -⟩ := hg.tail.head a rfl
    simp only at hka
    split at h
    · rename_i ht
      split at h
      · rename_i hin
        have hin := inb_iff.mp hin
        cases h
        refine ⟨hg.tail.tail.push vok_i, fun k H locs ls h1 h2 h3 => ?_⟩
        simp only [Bool.or_eq_true] at ht
        rcases ht with ht | ht
        · have ht := Nat.eq_of_beq_eq_true ht
          subst ht
          have ha : a < 173 := kd_lt hka (by omega) (by omega)
          have he := wsl_get (ad := ad) (cA := cA) (σ := σ) ha
          rw [cex_arr hka] at he
          exact va_iald hx hb hK h2 a 0 he rfl hin hd (k H locs ls h1 h2 h3)
        · have ht := Nat.eq_of_beq_eq_true ht
          subst ht
          obtain ⟨j, hj, rfl⟩ := kd_32 hka
          have hlt : i.toNatClampNeg < aln 0 (900 + j) := Nat.not_le.mp fun q => hin (Or.inr q)
          exact va_ti hx hb (hE.1 j hj).2 h3 hin (v := .int (σ (900 + j) i.toNatClampNeg)) (by have e9 : σ (900 + j) i.toNatClampNeg = sva j i.toNatClampNeg := hg.2.2.2.1 j _ hj hlt; rw [e9]) hd (k H locs ls h1 h2 h3)
      · cases h
    · split at h
      · rename_i ht
        split at h
        · rename_i hin
          have hin := inb_iff.mp hin
          cases h
          refine ⟨hg.tail.tail.push vok_i, fun k H locs ls h1 h2 h3 => ?_⟩
          have ht := Nat.eq_of_beq_eq_true ht
          subst ht
          have e0 := kd_33 hka
          subst e0
          have hlt : i.toNatClampNeg < L := Nat.not_le.mp fun q => hin (Or.inr q)
          obtain ⟨-, -, -, ⟨hX, hbl, hbA⟩, -⟩ := hE
          refine va_sld hx hb hX hbl hbA h3 hin hd ?_
          have := k H locs ls h1 h2 h3
          simp only [List.map_cons, cv] at this
          have e9 : σ 990 i.toNatClampNeg = xs i.toNatClampNeg := hg.2.2.2.2 _ hlt
          rw [e9] at this
          exact this
        · cases h
      · cases h
  · cases h
theorem ok_ast (X : FX p R s m args c nc ns ad cA D B0 L xs cc nL ow) (hd : decode cc pc = .ok (.iastore, 1)) (hg : GD nL L xs (pc, lo, st, σ)) (h : e_ast pc lo st σ = some q') : OKs p l e R s m args below meth c nc ns Q ad cA D B0 L xs nL (pc, lo, st, σ) q' := by
  obtain ⟨hx, hb, hml, hown, hts, hK, hE, hA, hR, hc1, hc2, how, hL⟩ := X
  unfold e_ast at h
  split at h
  · rename_i t' v t'' i t a r
    split at h
    · rename_i ht
      have ht := Nat.eq_of_beq_eq_true ht
      subst ht
      split at h
      · rename_i hin
        have hin := inb_iff.mp hin
        obtain ⟨hka, -⟩ := hg.tail.tail.head a rfl
        simp only at hka
        have ha : a < 173 := kd_lt hka (by omega) (by omega)
        cases h
        have hne : ∀ q, q ≠ a → up σ a i.toNatClampNeg v q = σ q := fun q hq => up_ne hq
        refine ⟨⟨hg.1, hg.2.1, fun w hw => hg.2.2.1 w (List.mem_cons_of_mem _ (List.mem_cons_of_mem _ (List.mem_cons_of_mem _ hw))), hg.2.2.2.ne ha hne⟩, fun k H locs ls h1 h2 h3 => ?_⟩
        have he := wsl_get (ad := ad) (cA := cA) (σ := σ) ha
        rw [cex_arr hka] at he
        refine va_iast hx hb hK h2 (wslD hA σ) h3 a 0 he rfl hin hd (fun H1 locs1 hP1 hD1 hS1 => k H1 locs1 ls h1 ?_ hS1)
        have hs := wsl_set (ad := ad) (cA := cA) (σ := σ) (σ' := up σ a i.toNatClampNeg v) (c := a) hne
        rw [up_row, cex_arr hka] at hs
        rw [hs] at hP1
        exact hP1
      · cases h
    · cases h
  · cases h
theorem ok_aal (X : FX p R s m args c nc ns ad cA D B0 L xs cc nL ow) (hd : decode cc pc = .ok (.aaload, 1)) (hg : GD nL L xs (pc, lo, st, σ)) (h : e_aal pc lo st σ = some q') : OKs p l e R s m args below meth c nc ns Q ad cA D B0 L xs nL (pc, lo, st, σ) q' := by
  obtain ⟨hx, hb, hml, hown, hts, hK, hE, hA, hR, hc1, hc2, how, hL⟩ := X
  unfold e_aal at h
  split at h
  · rename_i t' i t a r
    split at h
    · rename_i ht
      simp only [Bool.and_eq_true] at ht
      have ht1 := Nat.le_of_ble_eq_true ht.1
      have ht2 := Nat.le_of_ble_eq_true ht.2
      split at h
      · rename_i hin
        have hin := inb_iff.mp hin
        obtain ⟨hka, -⟩ := hg.tail.head a rfl
        simp only at hka
        have ha : a < 173 := kd_lt hka (by omega) (by omega)
        cases h
        have hlt : i.toNatClampNeg < aln 0 a := Nat.not_le.mp fun q => hin (Or.inr q)
        refine ⟨hg.tail.tail.push ?_, fun k H locs ls h1 h2 h3 => ?_⟩
        · intro b hb'
          cases hb'
          have := rt_ok2 a ha (by omega) _ hlt
          rw [hka] at this
          refine ⟨this, ?_⟩
          have hh : t = 21 ∨ t = 22 ∨ t = 23 ∨ t = 24 := by omega
          have e9 : ∀ u, u = 21 ∨ u = 22 ∨ u = 23 ∨ u = 24 → elt u ≠ 0 := by intro u hu; rcases hu with rfl | rfl | rfl | rfl <;> decide
          exact e9 t hh
        · have he := wsl_get (ad := ad) (cA := cA) (σ := σ) ha
          rw [cex_ref (by omega), hka] at he
          have hty : ∃ C, (tysL cA)[t - 20]? = some (cA (t - 20), .object C) := by
            have hh : t = 21 ∨ t = 22 ∨ t = 23 ∨ t = 24 := by omega
            rcases hh with rfl | rfl | rfl | rfl <;> exact ⟨_, rfl⟩
          obtain ⟨C, hC⟩ := hty
          exact va_aldq hx hb hK h2 a (t - 20) he hC hin hd (k H locs ls h1 h2 h3)
      · cases h
    · cases h
  · cases h
theorem ok_len (X : FX p R s m args c nc ns ad cA D B0 L xs cc nL ow) (hd : decode cc pc = .ok (.arraylength, 1)) (hg : GD nL L xs (pc, lo, st, σ)) (h : e_len L pc lo st σ = some q') : OKs p l e R s m args below meth c nc ns Q ad cA D B0 L xs nL (pc, lo, st, σ) q' := by
  obtain ⟨hx, hb, hml, hown, hts, hK, hE, hA, hR, hc1, hc2, how, hL⟩ := X
  unfold e_len at h
  split at h
  · rename_i t a r
    obtain ⟨hka, -⟩ := hg.head a rfl
    simp only at hka
    split at h
    · rename_i ht
      cases h
      refine ⟨hg.tail.push vok_i, fun k H locs ls h1 h2 h3 => ?_⟩
      have ht := Nat.eq_of_beq_eq_true ht
      subst ht
      have e0 := kd_33 hka
      subst e0
      obtain ⟨-, -, -, ⟨hX, hbl, hbA⟩, -⟩ := hE
      exact va_slen hx hb hX hbl hbA h3 hd (k H locs ls h1 h2 h3)
    · split at h
      · rename_i ht
        cases h
        refine ⟨hg.tail.push vok_i, fun k H locs ls h1 h2 h3 => ?_⟩
        have ht := Nat.eq_of_beq_eq_true ht
        subst ht
        have ha : a < 173 := kd_lt hka (by omega) (by omega)
        have he := wsl_get (ad := ad) (cA := cA) (σ := σ) ha
        rw [cex_arr hka] at he
        exact va_alen hx hb hK h2 a 0 he (ty := .int) rfl rfl hd (k H locs ls h1 h2 h3)
      · cases h
  · cases h
theorem ok_gst {i : Nat} (X : FX p R s m args c nc ns ad cA D B0 L xs cc nL ow) (hd : decode cc pc = .ok (.getstatic i, 3)) (hg : GD nL L xs (pc, lo, st, σ)) (h : e_gst ow i pc lo st σ = some q') : OKs p l e R s m args below meth c nc ns Q ad cA D B0 L xs nL (pc, lo, st, σ) q' := by
  obtain ⟨hx, hb, hml, hown, hts, hK, hE, hA, hR, hc1, hc2, how, hL⟩ := X
  unfold e_gst at h
  split at h
  · rename_i j y hgr
    cases h
    obtain ⟨w, hw⟩ := look_mem hgr
    obtain ⟨hj, hlk⟩ := gr_ok1 ow how _ hw
    simp only at hj hlk
    refine ⟨hg.push ?_, fun k H locs ls h1 h2 h3 => ?_⟩
    · intro b hb'
      cases hb'
      refine ⟨?_, fun z => by cases z⟩
      match j, hj with
      | 0, _ => rfl
      | 1, _ => rfl
      | 2, _ => rfl
      | 3, _ => rfl
    · split at hlk
      · exact va_gets hx hb (hE.1 j hj).1 h3 hown (hts _ (tb_mem hlk rfl)) (fun _ h9 => h9) hd (k H locs ls h1 h2 h3)
      · exact va_getsN hx hb (hE.1 j hj).1 h3 hown (va_Nw.use rfl (hE.2.2.1 _ hlk)) (fun _ h9 => h9) hd (k H locs ls h1 h2 h3)
  · cases h
theorem ok_ldc {i n : Nat} (X : FX p R s m args c nc ns ad cA D B0 L xs cc nL ow) (hd : (n = 2 ∧ decode cc pc = .ok (.ldc i, 2)) ∨ (n = 3 ∧ decode cc pc = .ok (.ldc_w i, 3))) (hg : GD nL L xs (pc, lo, st, σ)) (h : e_ldc ow i n pc lo st σ = some q') : OKs p l e R s m args below meth c nc ns Q ad cA D B0 L xs nL (pc, lo, st, σ) q' := by
  obtain ⟨hx, hb, hml, hown, hts, hK, hE, hA, hR, hc1, hc2, how, hL⟩ := X
  unfold e_ldc at h
  split at h
  · rename_i v hk
    cases h
    obtain ⟨w, hw⟩ := lookK_mem hk
    have hlk := kr_ok ow how _ hw
    refine ⟨hg.push vok_i, fun k H locs ls h1 h2 h3 => ?_⟩
    rcases hd with ⟨rfl, hd⟩ | ⟨rfl, hd⟩
    · exact lv_ldc hx hb hown (hts _ (tb_mem hlk rfl)) hd (k H locs ls h1 h2 h3)
    · exact lv_ldcw hx hb hown (hts _ (tb_mem hlk rfl)) hd (k H locs ls h1 h2 h3)
  · split at h
    · rename_i hn
      have hn := Nat.eq_of_beq_eq_true hn
      subst hn
      split at h
      · rename_i j hj
        cases h
        obtain ⟨w, hw⟩ := lookS_mem hj
        obtain ⟨hj4, e3, hsx⟩ := sr_ok ow how _ hw
        simp only at hj4 hsx
        refine ⟨hg.push ?_, fun k H locs ls h1 h2 h3 => ?_⟩
        · intro b hb'
          cases hb'
          refine ⟨?_, fun z => by cases z⟩
          match j, hj4 with
          | 0, _ => rfl
          | 1, _ => rfl
          | 2, _ => rfl
          | 3, _ => rfl
        · rcases hd with ⟨-, hd⟩ | ⟨hd, -⟩
          · subst e3
            have hZ := hE.2.1 j hj4
            rw [← hsx] at hZ
            exact va_ldcS hx hb hown hZ hd (k H locs ls h1 h2 h3)
          · cases hd
      · cases h
    · cases h
theorem ok_ldl {i : Nat} (X : FX p R s m args c nc ns ad cA D B0 L xs cc nL ow) (hd : decode cc pc = .ok (.ldc2_w i, 3)) (hg : GD nL L xs (pc, lo, st, σ)) (h : e_ldl ow i pc lo st σ = some q') : OKs p l e R s m args below meth c nc ns Q ad cA D B0 L xs nL (pc, lo, st, σ) q' := by
  obtain ⟨hx, hb, hml, hown, hts, hK, hE, hA, hR, hc1, hc2, how, hL⟩ := X
  unfold e_ldl at h
  split at h
  · rename_i v hk
    cases h
    obtain ⟨w, hw⟩ := lookL_mem hk
    have hlk := lr_ok ow how _ hw
    exact ⟨hg.push vok_l, fun k H locs ls h1 h2 h3 => lv_ldc2 hx hb hown (hts _ (tb_mem hlk rfl)) hd (k H locs ls h1 h2 h3)⟩
  · cases h
end STP
