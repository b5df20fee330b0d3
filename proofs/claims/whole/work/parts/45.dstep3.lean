section DST
variable {p : Program} {l : Launch} {e : Env} {R : Room} {s : State} {m : MethodId} {args : Array Value} {below : List Frame} {meth : Method} {c : Code} {Q : State → Prop} {cA : Nat → ClassId} {D : va_G} {B0 : Nat} {cc : ByteArray} {nL ow n0 nM : Nat} {ad0 : Nat → Nat}
variable {pc n : Nat} {lo : LO} {st : List AV} {σ : Sg} {ρ : Rh} {q' : DS}
theorem dd_ast (X : FD p R s m args meth c cA D B0 cc nL ow n0 nM) (hd : decode cc pc = .ok (.iastore, 1)) {t1 t2 a : Nat} {v i : Int32} {r : List AV} (hg : GDd nL (pc, lo, (t1, .int v) :: (t2, .int i) :: (20, .ref a) :: r, n, σ, ρ)) (hin : vp_in i (aln 0 a)) : OKd p l e R s m args below meth c Q cA D B0 nL n0 ad0 (pc, lo, (t1, .int v) :: (t2, .int i) :: (20, .ref a) :: r, n, σ, ρ) (pc + 1, lo, r, n, up σ a i.toNatClampNeg v, ρ) := by
  obtain ⟨hx, hb, hml, hown, hts, hDK, hin2, hB, hR, how, hRC⟩ := X
  obtain ⟨hka, han⟩ := hg.tail.tail.head a rfl
  simp only at hka han
  have han : a < n := han
  have hne : ∀ q, q ≠ a → up σ a i.toNatClampNeg v q = σ q := fun q hq => up_ne hq
  refine ⟨⟨hg.1, hg.2.1, hg.tail.tail.tail.2.2.1, hg.2.2.2.1, fun c' hc' k' => by have hc2 : n ≤ c' := hc'; show up σ a i.toNatClampNeg v c' k' = 0; rw [hne c' (by omega)]; exact hg.2.2.2.2.1 c' hc' k', hg.2.2.2.2.2⟩, Nat.le_refl _, fun kk ad H locs ls ha h1 h2 h3 h4 => ?_⟩
  have he := wsd_get (ad := ad) (cA := cA) (σ := σ) (ρ := ρ) han
  rw [cexd_arr hka] at he
  refine va_iast hx hb hDK.1 h2 (wsdD h3) h4 a 0 he rfl hin hd (fun H1 locs1 hP1 hD1 hS1 => kk ad H1 locs1 ls ha h1 ?_ h3 hS1)
  have hs := wsd_set (n := n) (ad := ad) (cA := cA) (σ := σ) (σ' := up σ a i.toNatClampNeg v) (ρ := ρ) (ρ' := ρ) (c := a) hne (fun _ _ => rfl)
  rw [up_row, cexd_arr hka] at hs
  rw [hs] at hP1
  exact hP1
theorem dd_aast (X : FD p R s m args meth c cA D B0 cc nL ow n0 nM) (hd : decode cc pc = .ok (.aastore, 1)) {t t' t2 a z : Nat} {i : Int32} {r : List AV} (hg : GDd nL (pc, lo, (t', .ref z) :: (t2, .int i) :: (t, .ref a) :: r, n, σ, ρ)) (ht1 : 21 ≤ t) (ht2 : t ≤ 24) (hte : elt t = t') (hin : vp_in i (aln 0 a)) : OKd p l e R s m args below meth c Q cA D B0 nL n0 ad0 (pc, lo, (t', .ref z) :: (t2, .int i) :: (t, .ref a) :: r, n, σ, ρ) (pc + 1, lo, r, n, σ, upR ρ a i.toNatClampNeg z) := by
  obtain ⟨hx, hb, hml, hown, hts, hDK, hin2, hB, hR, how, hRC⟩ := X
  obtain ⟨hka, han⟩ := hg.tail.tail.head a rfl
  obtain ⟨hkz, hzn⟩ := hg.head z rfl
  simp only at hka han hkz hzn
  have han : a < n := han
  have hzn : z < n := hzn
  have hne : ∀ q, q ≠ a → upR ρ a i.toNatClampNeg z q = ρ q := fun q hq => upR_ne hq
  refine ⟨⟨hg.1, hg.2.1, hg.tail.tail.tail.2.2.1, fun c' k' r' hr => ?_, hg.2.2.2.2⟩, Nat.le_refl _, fun kk ad H locs ls ha h1 h2 h3 h4 => ?_⟩
  · simp only [upR] at hr
    split at hr
    · rename_i e1
      split at hr
      · cases hr; exact ⟨hzn, by rw [e1]; exact han⟩
      · exact hg.2.2.2.1 c' k' r' hr
    · exact hg.2.2.2.1 c' k' r' hr
  have he := wsd_get (ad := ad) (cA := cA) (σ := σ) (ρ := ρ) han
  rw [cexd_ref (by omega), hka] at he
  have hv := wsd_get (ad := ad) (cA := cA) (σ := σ) (ρ := ρ) hzn
  have hcase : (t = 21 ∧ t' = 1) ∨ (t = 22 ∧ t' = 10) ∨ (t = 23 ∧ t' = 6) ∨ (t = 24 ∧ t' = 7) := by
    have hh : t = 21 ∨ t = 22 ∨ t = 23 ∨ t = 24 := by omega
    rcases hh with rfl | rfl | rfl | rfl <;> subst hte <;> simp [elt]
  have ht12 : t' ≤ 12 ∧ 1 ≤ t' := by omega
  rw [cexd_obj (by omega), hkz] at hv
  have hty : (tysL cA)[t - 20]? = some (cA (t - 20), .object (cR (t' - 1))) := by
    rcases hcase with ⟨rfl, rfl⟩ | ⟨rfl, rfl⟩ | ⟨rfl, rfl⟩ | ⟨rfl, rfl⟩ <;> rfl
  refine va_astq (r := (cR (t' - 1), cT (t' - 1), cN (t' - 1))) hx hb hDK.1 h2 (wsdD h3) h4 a (t - 20) z (t' - 1) he hty hv (cl_at (t' - 1) (by omega)) hin hd (fun H1 locs1 hP1 hD1 hS1 => kk ad H1 locs1 ls ha h1 ?_ h3 hS1)
  have hs := wsd_set (n := n) (ad := ad) (cA := cA) (σ := σ) (σ' := σ) (ρ := ρ) (ρ' := upR ρ a i.toNatClampNeg z) (c := a) (fun _ _ => rfl) hne
  rw [upR_row, cexd_ref (by omega), hka] at hs
  have e9 : (fun i_1 => Option.map ad (va_up (ρ a) i.toNatClampNeg (some z) i_1)) = va_up (fun i => Option.map ad (ρ a i)) i.toNatClampNeg (some (ad z)) := by
    funext j
    unfold va_up
    by_cases e : j = i.toNatClampNeg <;> simp [e]
  rw [e9] at hs
  rw [hs] at hP1
  exact hP1
theorem dd_load {i : Nat} {v : AV} {n' : Nat} (hg : GDd nL (pc, lo, st, n, σ, ρ)) (hl : lg lo i = some v) (hv : vokd n v) (row : ∀ (H : Heap) (locs : List Loc) (ls : Array Slot) (rest : List Value) (ad : Nat → Nat) (cells slots : Nat), ls[i]? = some (.val (cv ad v)) → W p l e R s m args below meth c H locs cells slots Q (F0 m (pc + n') ls (cv ad v :: rest)) → W p l e R s m args below meth c H locs cells slots Q (F0 m pc ls rest)) : OKd p l e R s m args below meth c Q cA D B0 nL n0 ad0 (pc, lo, st, n, σ, ρ) (pc + n', lo, v :: st, n, σ, ρ) := by
  refine ⟨hg.push hv, Nat.le_refl _, fun k ad H locs ls ha h1 h2 h3 h4 => row H locs ls _ ad _ _ ?_ (k ad H locs ls ha h1 h2 h3 h4)⟩
  have := h1.2.2 _ (prs_mem (ad := ad) (j := 0) hl)
  simpa using this
theorem dd_store {i n' : Nat} {v : AV} {r : List AV} (hg : GDd nL (pc, lo, v :: r, n, σ, ρ)) (hc : (noL lo && Nat.blt i (lle lo)) = true) (row : ∀ (H : Heap) (locs : List Loc) (ls : Array Slot) (rest : List Value) (ad : Nat → Nat) (cells slots : Nat) (lv : List (Nat × Value)), lv_has ls nL lv → i < nL → (∀ ls' : Array Slot, lv_has ls' nL ((i, cv ad v) :: lv.filter (fun q => !(q.1 == i) && !(q.1 + 1 == i && q.2.category == 2))) → W p l e R s m args below meth c H locs cells slots Q (F0 m (pc + n') ls' rest)) → W p l e R s m args below meth c H locs cells slots Q (F0 m pc ls (cv ad v :: rest))) : OKd p l e R s m args below meth c Q cA D B0 nL n0 ad0 (pc, lo, v :: r, n, σ, ρ) (pc + n', lst lo i v, r, n, σ, ρ) := by
  simp only [Bool.and_eq_true] at hc
  have hi : i < nL := by
    rw [← hg.1, ← lle_len]; simpa [Nat.blt_eq] using hc.2
  exact ⟨hg.tail.sto hg.head, Nat.le_refl _, fun k ad H locs ls ha h1 h2 h3 h4 => row H locs ls _ ad _ _ _ h1 hi (fun ls' h => k ad H locs ls' ha (lv_sto hc.1 h) h2 h3 h4)⟩
set_option maxHeartbeats 4000000 in
theorem de_ok {i : Instr} {len : Nat} {q : DS} (X : FD p R s m args meth c cA D B0 cc nL ow n0 nM) (hn0 : n0 ≤ q.2.2.2.1) (hd : decode cc q.1 = .ok (i, len)) (hl : (sw_is i || len == il i) = true) (hg : GDd nL q) (h : de ow i q = some q') (hM : q'.2.2.2.1 ≤ nM) : OKd p l e R s m args below meth c Q cA D B0 nL n0 ad0 q q' := by
  obtain ⟨pc, lo, st, n, σ, ρ⟩ := q
  obtain ⟨hx, hb, hml, hown, hts, hDK, hin2, hB, hR, how, hRC⟩ := id X
  simp only at hn0 hd
  cases i
  all_goals first | exact absurd (show (none : Option DS) = some q' from h) (by simp) | skip
  all_goals first | (have hl := eq_of_beq (show (len == il _) = true from hl); subst hl) | skip
  all_goals (simp only [de] at h)
  case iconst k => cases h; exact ⟨hg.push vokd_i, Nat.le_refl _, fun k ad H locs ls ha h1 h2 h3 h4 => lv_iconst hx hb hd rfl (k ad H locs ls ha h1 h2 h3 h4)⟩
  case bipush k => cases h; exact ⟨hg.push vokd_i, Nat.le_refl _, fun k ad H locs ls ha h1 h2 h3 h4 => lv_bipush hx hb hd rfl (k ad H locs ls ha h1 h2 h3 h4)⟩
  case sipush k => cases h; exact ⟨hg.push vokd_i, Nat.le_refl _, fun k ad H locs ls ha h1 h2 h3 h4 => lv_sipush hx hb hd rfl (k ad H locs ls ha h1 h2 h3 h4)⟩
  case aload_n k =>
    split at h
    · rename_i t c' hv
      split at h
      · cases h
      rename_i h33
      cases h
      have hvk : vokd n (t, .ref c') := by
        rcases hg.2.1 _ (lg_mem hv) with h9 | h9
        · exact h9
        · cases h9
          cases h33
      exact dd_load hg hv hvk (fun H locs ls rest ad ce sl hr k => lv_aload_n hx hb hd rfl hr k)
    · cases h
  case iload_n k =>
    split at h
    · rename_i hv; cases h; exact dd_load hg hv vokd_i (fun H locs ls rest ad ce sl hr k => lv_iload_n hx hb hd rfl hr k)
    · cases h
  case istore_n k =>
    split at h
    · split at h
      · rename_i hc; cases h; exact dd_store hg hc (fun H locs ls rest ad ce sl lv hv hi k => lv_istore_n hx hb hd rfl hv hi rfl k)
      · cases h
    · cases h
  case astore_n k =>
    split at h
    · split at h
      · rename_i hc; cases h; exact dd_store hg hc (fun H locs ls rest ad ce sl lv hv hi k => lv_astore_n hx hb hd rfl hv hi rfl k)
      · cases h
    · cases h
  case iinc k j =>
    split at h
    · rename_i t x hv
      split at h
      · rename_i hc
        cases h
        have hc' := hc
        simp only [Bool.and_eq_true] at hc'
        have hi : k < nL := by rw [← hg.1, ← lle_len]; simpa [Nat.blt_eq] using hc'.2
        refine ⟨hg.sto vokd_i, Nat.le_refl _, fun kk ad H locs ls ha h1 h2 h3 h4 => ?_⟩
        have hm := prs_mem (ad := ad) (j := 0) hv
        rw [Nat.zero_add] at hm
        obtain ⟨k2, hk2⟩ := List.mem_iff_getElem?.mp hm
        exact lv_iinc hx hb hd h1 hk2 rfl hi rfl (fun ls' h => kk ad H locs ls' ha (lv_sto (v := (0, .int (x + Int32.ofInt j))) hc'.1 h) h2 h3 h4)
      · cases h
    · cases h
  case if_icmp o off =>
    cases o
    all_goals first | exact absurd (show (none : Option DS) = some q' from h) (by simp) | skip
    simp only at h
    split at h
    · split at h
      · rename_i hj
        have hj' := jok_eq hj
        split at h <;> rename_i hc <;> cases h <;> refine ⟨hg.tail.tail, Nat.le_refl _, fun k ad H locs ls ha h1 h2 h3 h4 => ?_⟩
        · exact lv_icmp_ge hx hb hd hj' (fun _ => k ad H locs ls ha h1 h2 h3 h4) (fun z => absurd hc z)
        · exact lv_icmp_ge hx hb hd hj' (fun z => absurd z hc) (fun _ => k ad H locs ls ha h1 h2 h3 h4)
      · cases h
    · cases h
  case goto off =>
    split at h
    · rename_i hj; cases h; exact ⟨hg, Nat.le_refl _, fun k ad H locs ls ha h1 h2 h3 h4 => lv_goto hx hb hd (jok_eq hj) (k ad H locs ls ha h1 h2 h3 h4)⟩
    · cases h
  case dup =>
    split at h
    · cases h; exact ⟨hg.push hg.head, Nat.le_refl _, fun k ad H locs ls ha h1 h2 h3 h4 => lv_dup hx hb hd rfl (k ad H locs ls ha h1 h2 h3 h4)⟩
    · cases h
  case new k =>
    split at h
    · rename_i t y hck; exact dd_new X hn0 hd hg hck h hM
    · cases h
  case newarray a =>
    cases a
    all_goals first | exact absurd (show (none : Option DS) = some q' from h) (by simp) | skip
    simp only at h
    split at h
    · split at h
      · cases h
      · rename_i hx0; exact dd_newa X hn0 hd hg hx0 h hM
    · cases h
  case anewarray k =>
    split at h
    · split at h
      · rename_i t y hck
        split at h
        · cases h
        · rename_i hat
          split at h
          · cases h
          · rename_i hx0; exact dd_newq X hn0 hd hg hck (Nat.ne_of_beq_eq_false hat) hx0 h hM
      · cases h
    · cases h
  case getfield k =>
    split at h
    · split at h
      · rename_i u j hfr
        split at h
        · rename_i htu
          split at h
          · cases h
          · rename_i hf
            split at h
            · rename_i z hz
              split at h
              · rename_i hkz
                cases h
                exact dd_get X hd hg hfr (Nat.eq_of_beq_eq_true htu) (Nat.ne_of_beq_eq_false hf) hz (Nat.eq_of_beq_eq_true hkz)
              · cases h
            · cases h
        · cases h
      · cases h
    · cases h
  case putfield k =>
    split at h
    · split at h
      · rename_i u j hfr
        split at h
        · rename_i hq
          simp only [Bool.and_eq_true] at hq
          cases h
          exact dd_puti X hd hg hfr (Nat.eq_of_beq_eq_true hq.1) (Nat.eq_of_beq_eq_true hq.2.1) (Nat.eq_of_beq_eq_true hq.2.2)
        · cases h
      · cases h
    · split at h
      · rename_i u j hfr
        split at h
        · rename_i hq
          simp only [Bool.and_eq_true] at hq
          cases h
          exact dd_putr X hd hg hfr (Nat.eq_of_beq_eq_true hq.1) (Nat.eq_of_beq_eq_true hq.2.1) (Nat.eq_of_beq_eq_true hq.2.2.1) hq.2.2.2
        · cases h
      · cases h
    · cases h
  case iastore =>
    split at h
    · split at h
      · rename_i ht
        have ht := Nat.eq_of_beq_eq_true ht
        subst ht
        split at h
        · rename_i hin; cases h; exact dd_ast X hd hg (inb_iff.mp hin)
        · cases h
      · cases h
    · cases h
  case aastore =>
    split at h
    · split at h
      · rename_i ht
        simp only [Bool.and_eq_true] at ht
        split at h
        · rename_i hin; cases h; exact dd_aast X hd hg (Nat.le_of_ble_eq_true ht.1) (Nat.le_of_ble_eq_true ht.2.1) (Nat.eq_of_beq_eq_true ht.2.2) (inb_iff.mp hin)
        · cases h
      · cases h
    · cases h
end DST
