section DST
variable {p : Program} {l : Launch} {e : Env} {R : Room} {s : State} {m : MethodId} {args : Array Value} {below : List Frame} {meth : Method} {c : Code} {Q : State → Prop} {cA : Nat → ClassId} {D : va_G} {B0 : Nat} {cc : ByteArray} {nL ow n0 nM : Nat} {ad0 : Nat → Nat}
variable {pc n : Nat} {lo : LO} {st : List AV} {σ : Sg} {ρ : Rh} {q' : DS}
theorem ck_at {k t y : Nat} (how : ow < 13) (h : ck ow k = some (t, y)) : Cond.classLink (cR ow) k (cR (t - 1)) ∈ TB ∧ 1 ≤ t ∧ t ≤ 12 := by
  obtain ⟨w, hw⟩ := look_mem h
  obtain ⟨h1, h2, h3⟩ := ck_ok ow how _ hw
  exact ⟨tb_mem h1 rfl, h2, h3⟩
theorem dd_new {k : Nat} (X : FD p R s m args meth c cA D B0 cc nL ow n0 nM) (hn0 : n0 ≤ n) (hd : decode cc pc = .ok (.new k, 3)) (hg : GDd nL (pc, lo, st, n, σ, ρ)) {t y : Nat} (hck : ck ow k = some (t, y)) (h : d_alloc t (cN (t - 1)) (pc + 3) n lo st σ ρ = some q') (hM : q'.2.2.2.1 ≤ nM) : OKd p l e R s m args below meth c Q cA D B0 nL n0 ad0 (pc, lo, st, n, σ, ρ) q' := by
  obtain ⟨hx, hb, hml, hown, hts, hDK, hin, hB, hR, how, hRC⟩ := X
  obtain ⟨hlk, ht1, ht2⟩ := ck_at how hck
  obtain ⟨i1, i2⟩ := ins_ok (t - 1) (by omega)
  refine dok_alloc (x := []) hn0 hg h hM hRC ?_
  intro ad H locs ls cells slots hP hA hS hkd hsz hlt hc1 hc2 kk
  have hkd : kd n = _ := hkd
  have hlt : n < 173 := hlt
  have hce : cexd ad cA (σ n) (ρ n) n = .inr (t - 1, flsd ad (σ n) (ρ n) n) := by rw [cexd_obj (by omega), hkd]
  rw [hce] at kk
  refine va_new (C := cR (t - 1)) (T := cT (t - 1)) (N := cN (t - 1)) (ci := t - 1) (fs := flsd ad (σ n) (ρ n) n) hx hb hts (lay_in (t - 1) (by omega)) (cTy (t - 1)) (ft_ty (t - 1) (by omega)) hown (hts _ hlk) (hts _ (tb_mem i1 rfl)) (hts _ (tb_mem i2 rfl)) hDK.1 hP (wsdD hA) hS (fun q hq => Nat.le_trans hB hq) (cl_at (t - 1) (by omega)) ?_ hc1 hc2 hd kk
  intro j hj
  rw [defv (t - 1) (by omega) j hj, Nat.sub_add_cancel ht1]
  unfold vp_V
  rw [List.getD_eq_getElem?_getD, flsd_get (by rw [hkd]; exact hj), hkd]
  have hr : ρ n j = none := by
    cases hq : ρ n j with
    | none => rfl
    | some z => exact absurd (hg.2.2.2.1 n j z hq).2 (Nat.lt_irrefl n)
  have hs0 : σ n j = 0 := hg.2.2.2.2.1 n (Nat.le_refl n) j
  rw [hr, hs0]
  rfl
theorem dd_newa (X : FD p R s m args meth c cA D B0 cc nL ow n0 nM) (hn0 : n0 ≤ n) (hd : decode cc pc = .ok (.newarray .int, 2)) {u : Nat} {x : Int32} {r : List AV} (hg : GDd nL (pc, lo, (u, .int x) :: r, n, σ, ρ)) (hx0 : ¬ x < 0) (h : d_alloc 20 x.toNatClampNeg (pc + 2) n lo r σ ρ = some q') (hM : q'.2.2.2.1 ≤ nM) : OKd p l e R s m args below meth c Q cA D B0 nL n0 ad0 (pc, lo, (u, .int x) :: r, n, σ, ρ) q' := by
  obtain ⟨hx, hb, hml, hown, hts, hDK, hin, hB, hR, how, hRC⟩ := X
  refine dok_alloc (x := [.int x]) hn0 hg.tail h hM hRC ?_
  intro ad H locs ls cells slots hP hA hS hkd hsz hlt hc1 hc2 kk
  have hkd : kd n = _ := hkd
  have hlt : n < 173 := hlt
  have hce : cexd ad cA (σ n) (ρ n) n = .inl (cA 0, aln 0 n, .inl (σ n)) := cexd_arr hkd
  have hσ : σ n = fun _ => 0 := funext (fun k => hg.2.2.2.2.1 n (Nat.le_refl n) k)
  have hal : aln 0 n = x.toNatClampNeg := by
    have : szc n = aln 0 n := by unfold szc; rw [hkd]
    rw [← this]; exact hsz
  rw [hce, hσ, hal] at kk
  refine va_newa (atype := .int) (ty := .int) (a0 := (x.toNatClampNeg, .inl (fun _ => 0))) hx hb (hts _ (tb_mem wd_obj.2 rfl)) rfl hDK.1 hP (wsdD hA) hS (fun q hq => Nat.le_trans hB hq) (fun cA => rfl) hx0 rfl ?_ hc1 hc2 hd (fun q cA' H1 hK1 hP1 hD1 hS1 => ?_)
  · have : x.toNatClampNeg ≤ 2350 := by
      rw [← hal]; exact aln_le n hlt
    show x.toNatClampNeg * 4 ≤ 536870912
    omega
  · have e1 : cA' = cA 0 := by
      have h1 := (hK1.2 5 (cA', .int) rfl).2
      have h2 := (hK1.2 0 (cA 0, .int) rfl).2
      exact Option.some.inj (h1.symm.trans h2)
    subst e1
    exact kk q H1 hP1 hD1 hS1
theorem dd_newq {k : Nat} (X : FD p R s m args meth c cA D B0 cc nL ow n0 nM) (hn0 : n0 ≤ n) (hd : decode cc pc = .ok (.anewarray k, 3)) {u : Nat} {x : Int32} {r : List AV} {t y : Nat} (hg : GDd nL (pc, lo, (u, .int x) :: r, n, σ, ρ)) (hck : ck ow k = some (t, y)) (hat : ¬ atg t = 0) (hx0 : ¬ x < 0) (h : d_alloc (atg t) x.toNatClampNeg (pc + 3) n lo r σ ρ = some q') (hM : q'.2.2.2.1 ≤ nM) : OKd p l e R s m args below meth c Q cA D B0 nL n0 ad0 (pc, lo, (u, .int x) :: r, n, σ, ρ) q' := by
  obtain ⟨hx, hb, hml, hown, hts, hDK, hin, hB, hR, how, hRC⟩ := X
  obtain ⟨hlk, ht1, ht2⟩ := ck_at how hck
  refine dok_alloc (x := [.int x]) hn0 hg.tail h hM hRC ?_
  intro ad H locs ls cells slots hP hA hS hkd hsz hlt hc1 hc2 kk
  have hkd : kd n = _ := hkd
  have hlt : n < 173 := hlt
  have hcase : (t = 1 ∧ atg t = 21) ∨ (t = 10 ∧ atg t = 22) ∨ (t = 6 ∧ atg t = 23) ∨ (t = 7 ∧ atg t = 24) := by
    unfold atg at hat ⊢
    split at hat <;> simp_all
  have hat20 : 20 < kd n := by rw [hkd]; rcases hcase with ⟨-, h9⟩ | ⟨-, h9⟩ | ⟨-, h9⟩ | ⟨-, h9⟩ <;> omega
  have hce := cexd_ref (ad := ad) (cA := cA) (g := σ n) (r := ρ n) hat20
  have hρ : ρ n = fun _ => none := funext (fun j => by
    cases hq : ρ n j with
    | none => rfl
    | some z => exact absurd (hg.2.2.2.1 n j z hq).2 (Nat.lt_irrefl n))
  have hal : aln 0 n = x.toNatClampNeg := by
    have : szc n = aln 0 n := by
      unfold szc
      have : Nat.ble 20 (kd n) = true := Nat.ble_eq_true_of_le (by omega)
      rw [this]
    rw [← this]; exact hsz
  rw [hce, hρ, hal, hkd] at kk
  have hb4 : x.toNatClampNeg * 4 ≤ 536870912 := by
    have : x.toNatClampNeg ≤ 2350 := by rw [← hal]; exact aln_le n hlt
    omega
  have hover : va_AO (cR (t - 1)) s := by
    obtain ⟨a1, a2, a3, a4⟩ := hDK.2.1
    rcases hcase with ⟨rfl, -⟩ | ⟨rfl, -⟩ | ⟨rfl, -⟩ | ⟨rfl, -⟩
    · exact a1
    · exact a2
    · exact a3
    · exact a4
  refine va_newq (C := cR (t - 1)) hx hb hown (hts _ hlk) hover hDK.1 hP (wsdD hA) hS (fun q hq => Nat.le_trans hB hq) hx0 rfl hb4 hc1 hc2 hd (fun q cA' H1 hK1 hP1 hD1 hS1 => ?_)
  have e1 : cA' = cA (atg t - 20) := by
    have h1 := (hK1.2 5 (cA', .object (cR (t - 1))) rfl).2
    obtain ⟨_, _, _, _, _, h1⟩ := h1
    rcases hcase with ⟨rfl, h9⟩ | ⟨rfl, h9⟩ | ⟨rfl, h9⟩ | ⟨rfl, h9⟩
    · obtain ⟨_, _, _, _, _, h2⟩ := (hK1.2 1 (cA 1, .object RX0) rfl).2
      exact Option.some.inj (h1.symm.trans h2)
    · obtain ⟨_, _, _, _, _, h2⟩ := (hK1.2 2 (cA 2, .object RX9) rfl).2
      exact Option.some.inj (h1.symm.trans h2)
    · obtain ⟨_, _, _, _, _, h2⟩ := (hK1.2 3 (cA 3, .object RX5) rfl).2
      exact Option.some.inj (h1.symm.trans h2)
    · obtain ⟨_, _, _, _, _, h2⟩ := (hK1.2 4 (cA 4, .object RX6) rfl).2
      exact Option.some.inj (h1.symm.trans h2)
  subst e1
  exact kk q H1 hP1 hD1 hS1
theorem dd_get {k : Nat} (X : FD p R s m args meth c cA D B0 cc nL ow n0 nM) (hd : decode cc pc = .ok (.getfield k, 3)) {t a u j z : Nat} {r : List AV} (hg : GDd nL (pc, lo, (t, .ref a) :: r, n, σ, ρ)) (hfr : fr ow k = some (u, j)) (htu : t = u) (hf : ¬ ftg u j = 0) (hz : ρ a j = some z) (hkz : kd z = ftg u j) : OKd p l e R s m args below meth c Q cA D B0 nL n0 ad0 (pc, lo, (t, .ref a) :: r, n, σ, ρ) (pc + 3, lo, (ftg u j, .ref z) :: r, n, σ, ρ) := by
  obtain ⟨hx, hb, hml, hown, hts, hDK, hin, hB, hR, how, hRC⟩ := X
  obtain ⟨hlk, hk, hu1, hu2⟩ := fr_at (Nat.lt_of_lt_of_le how (by omega)) hfr
  subst htu
  obtain ⟨hka, han⟩ := hg.head a rfl
  simp only at hka han
  have han : a < n := han
  refine ⟨hg.tail.push (fun c' hc' => by cases hc'; exact ⟨hkz, (hg.2.2.2.1 a j z hz).1⟩), Nat.le_refl _, fun kk ad H locs ls ha h1 h2 h3 h4 => ?_⟩
  have he := wsd_get (ad := ad) (cA := cA) (σ := σ) (ρ := ρ) han
  rw [cexd_obj (by omega)] at he
  refine va_get (C := cR (t - 1)) (T := cT (t - 1)) (N := cN (t - 1)) (ci := kd a - 1) (ref := (cT (t - 1) j).1) hx hb hts (lay_in (t - 1) (by omega)) hown hDK.1 h2 a he (by rw [hka]; exact cl_at (t - 1) (by omega)) j hk (hts _ hlk) (fun _ h9 => h9) (v := .ref (ad z)) ?_ hd (kk ad H locs ls ha h1 h2 h3 h4)
  rw [flsd_get (by rw [hka]; exact hk), hka, if_neg hf, hz]
  rfl
theorem dd_puti {k : Nat} (X : FD p R s m args meth c cA D B0 cc nL ow n0 nM) (hd : decode cc pc = .ok (.putfield k, 3)) {t t' a u j : Nat} {v : Int32} {r : List AV} (hg : GDd nL (pc, lo, (t', .int v) :: (t, .ref a) :: r, n, σ, ρ)) (hfr : fr ow k = some (u, j)) (htu : t = u) (hf : ftg u j = 0) (hbo : fbo u j = 0) : OKd p l e R s m args below meth c Q cA D B0 nL n0 ad0 (pc, lo, (t', .int v) :: (t, .ref a) :: r, n, σ, ρ) (pc + 3, lo, r, n, up σ a j v, ρ) := by
  obtain ⟨hx, hb, hml, hown, hts, hDK, hin, hB, hR, how, hRC⟩ := X
  obtain ⟨hlk, hk, hu1, hu2⟩ := fr_at (Nat.lt_of_lt_of_le how (by omega)) hfr
  subst htu
  obtain ⟨hka, han⟩ := hg.tail.head a rfl
  simp only at hka han
  have han : a < n := han
  have hne : ∀ q, q ≠ a → up σ a j v q = σ q := fun q hq => up_ne hq
  refine ⟨⟨hg.1, hg.2.1, hg.tail.tail.2.2.1, hg.2.2.2.1, fun c' hc' k' => by have hc2 : n ≤ c' := hc'; show up σ a j v c' k' = 0; rw [hne c' (by omega)]; exact hg.2.2.2.2.1 c' hc' k', hg.2.2.2.2.2⟩, Nat.le_refl _, fun kk ad H locs ls ha h1 h2 h3 h4 => ?_⟩
  have he := wsd_get (ad := ad) (cA := cA) (σ := σ) (ρ := ρ) han
  rw [cexd_obj (by omega)] at he
  obtain ⟨hfin, hty⟩ := ft_ok (t - 1) (by omega) j hk (by rw [Nat.sub_add_cancel hu1]; exact hf)
  rw [Nat.sub_add_cancel hu1] at hty
  have hint : parseFieldDescriptor (cT (t - 1) j).2.2.1 = some .int := by
    rcases hty with ⟨-, h9⟩ | h9
    · exact h9
    · exact absurd hbo (by have := fb_ok (t - 1) (by omega) j hk (by rw [Nat.sub_add_cancel hu1]; exact hf) h9; rw [Nat.sub_add_cancel hu1] at this; exact this)
  refine va_put (C := cR (t - 1)) (T := cT (t - 1)) (N := cN (t - 1)) (ci := kd a - 1) (ref := (cT (t - 1) j).1) (ty := .int) (v := .int v) hx hb hts (lay_in (t - 1) (by omega)) (cTy (t - 1)) (ft_ty (t - 1) (by omega)) (ft_nm (t - 1) (by omega)) hown hDK.1 h2 (wsdD h3) h4 a he (by rw [hka]; exact cl_at (t - 1) (by omega)) j hk (hts _ hlk) (fun _ h9 => h9) hfin hint rfl rfl (by rw [flsd_len, hka]; exact hk) hd (fun H1 locs1 hP1 hD1 hS1 => kk ad H1 locs1 ls ha h1 ?_ h3 hS1)
  have hs := wsd_set (n := n) (ad := ad) (cA := cA) (σ := σ) (σ' := up σ a j v) (ρ := ρ) (ρ' := ρ) (c := a) hne (fun _ _ => rfl)
  rw [cexd_obj (by omega), ← flsd_set (g := σ a) (r := ρ a) (k := j) (v := .int v) (fun i hi => by rw [up_row]; simp [upd, hi]) (fun _ _ => rfl) (by rw [hka, if_pos hf, up_row]; simp [upd])] at hs
  rw [hs] at hP1
  exact hP1
theorem dd_putr {k : Nat} (X : FD p R s m args meth c cA D B0 cc nL ow n0 nM) (hd : decode cc pc = .ok (.putfield k, 3)) {t t' a u j z : Nat} {r : List AV} (hg : GDd nL (pc, lo, (t', .ref z) :: (t, .ref a) :: r, n, σ, ρ)) (hfr : fr ow k = some (u, j)) (htu : t = u) (hft : ftg u j = t') (hou : ow = u - 1) (hfl : (cT (u - 1) j).2.2.2 = true) : OKd p l e R s m args below meth c Q cA D B0 nL n0 ad0 (pc, lo, (t', .ref z) :: (t, .ref a) :: r, n, σ, ρ) (pc + 3, lo, r, n, σ, upR ρ a j z) := by
  obtain ⟨hx, hb, hml, hown, hts, hDK, hin, hB, hR, how, hRC⟩ := X
  obtain ⟨hlk, hk, hu1, hu2⟩ := fr_at (Nat.lt_of_lt_of_le how (by omega)) hfr
  subst htu
  obtain ⟨hka, han⟩ := hg.tail.head a rfl
  obtain ⟨hkz, hzn⟩ := hg.head z rfl
  simp only at hka han hkz hzn
  have han : a < n := han
  have hzn : z < n := hzn
  have hf0 : ¬ ftg t j = 0 := by
    intro h0
    have := kd_in z (Nat.lt_of_lt_of_le hzn hg.2.2.2.2.2)
    omega
  have hne : ∀ q, q ≠ a → upR ρ a j z q = ρ q := fun q hq => upR_ne hq
  refine ⟨⟨hg.1, hg.2.1, hg.tail.tail.2.2.1, fun c' k' r' hr => ?_, hg.2.2.2.2⟩, Nat.le_refl _, fun kk ad H locs ls ha h1 h2 h3 h4 => ?_⟩
  · simp only [upR] at hr
    split at hr
    · rename_i e1
      split at hr
      · cases hr; exact ⟨hzn, by rw [e1]; exact han⟩
      · exact hg.2.2.2.1 c' k' r' hr
    · exact hg.2.2.2.1 c' k' r' hr
  have he := wsd_get (ad := ad) (cA := cA) (σ := σ) (ρ := ρ) han
  rw [cexd_obj (by omega)] at he
  have hini : meth.name = "<init>" := by
    rcases hin with h9 | h9
    · omega
    · exact h9
  obtain ⟨ty, hty, hn, hft2, hdecl⟩ := pr_ok (t - 1) (by omega) j hk (by rw [Nat.sub_add_cancel hu1]; exact hf0)
  refine va_putF (C := cR (t - 1)) (T := cT (t - 1)) (N := cN (t - 1)) (ci := kd a - 1) (ref := (cT (t - 1) j).1) (ty := ty) (v := .ref (ad z)) hx hb hts (lay_in (t - 1) (by omega)) (cTy (t - 1)) (ft_ty (t - 1) (by omega)) (ft_nm (t - 1) (by omega)) hown hDK.1 h2 (wsdD h3) h4 a he (by rw [hka]; exact cl_at (t - 1) (by omega)) j hk (hts _ hlk) (fun _ h9 => h9) hfl hini (by rw [hou]; exact hdecl) hty (hn _) (hft2 _) (by rw [flsd_len, hka]; exact hk) hd (fun H1 locs1 hP1 hD1 hS1 => kk ad H1 locs1 ls ha h1 ?_ h3 hS1)
  have hs := wsd_set (n := n) (ad := ad) (cA := cA) (σ := σ) (σ' := σ) (ρ := ρ) (ρ' := upR ρ a j z) (c := a) (fun _ _ => rfl) hne
  rw [cexd_obj (by omega), ← flsd_set (g := σ a) (r := ρ a) (k := j) (v := .ref (ad z)) (fun _ _ => rfl) (fun i hi => by rw [upR_row]; simp [va_up, hi]) (by rw [hka, if_neg hf0, upR_row]; simp [va_up, va_rf])] at hs
  rw [hs] at hP1
  exact hP1
end DST
