theorem de_mono {ow : Nat} {i : Instr} {q q' : DS} (h : de ow i q = some q') : q.2.2.2.1 ≤ q'.2.2.2.1 := by
  obtain ⟨pc, lo, st, n, σ, ρ⟩ := q
  have ha : ∀ t N pc' r, d_alloc t N pc' n lo r σ ρ = some q' → n ≤ q'.2.2.2.1 := by
    intro t N pc' r h
    unfold d_alloc at h
    split at h
    · cases h; exact Nat.le_succ n
    · cases h
  unfold de at h
  simp only at h
  split at h
  all_goals repeat' (split at h)
  all_goals first | (cases h; exact Nat.le_refl _) | exact ha _ _ _ _ h | cases h
theorem dgo_mono : ∀ (d fu ow nL : Nat) (K : List (Nat × Instr × Nat)) (q q' : DS), dgo d ow nL K q fu = some q' → q.2.2.2.1 ≤ q'.2.2.2.1 := by
  intro d
  induction d with
  | zero => intro fu ow nL K q q' h; cases h
  | succ d ihd =>
    intro fu
    induction fu with
    | zero => intro ow nL K q q' h; cases h
    | succ fu ih =>
      intro ow nL K q q' h
      rw [dgo_s] at h
      split at h
      · split at h
        · cases h; exact Nat.le_refl _
        · cases h
      · split at h
        · split at h
          · split at h
            · have := ih _ _ _ _ _ h
              exact this
            · cases h
          · cases h
        · split at h
          · split at h
            · split at h
              · rename_i hq
                have h1 := ihd _ _ _ _ _ _ hq
                have h2 := ih _ _ _ _ _ h
                exact Nat.le_trans h1 h2
              · cases h
            · cases h
          · cases h
        · cases h
      · split at h
        · rename_i hq
          exact Nat.le_trans (de_mono hq) (ih _ _ _ _ _ h)
        · cases h
      · cases h
theorem dgo_end : ∀ (d fu ow nL : Nat) (K : List (Nat × Instr × Nat)) (q q' : DS), dgo d ow nL K q fu = some q' → fetch K q'.1 = some .return_ ∧ q'.2.2.1 = [] := by
  intro d
  cases d with
  | zero => intro fu ow nL K q q' h; cases h
  | succ d =>
    intro fu
    induction fu with
    | zero => intro ow nL K q q' h; cases h
    | succ fu ih =>
      intro ow nL K q q' h
      rw [dgo_s] at h
      split at h
      · rename_i hf
        split at h
        · rename_i hs
          cases h; exact ⟨hf, hs⟩
        · cases h
      · split at h
        · split at h
          · split at h
            · exact ih _ _ _ _ _ h
            · cases h
          · cases h
        · split at h
          · split at h
            · split at h
              · exact ih _ _ _ _ _ h
              · cases h
            · cases h
          · cases h
        · cases h
      · split at h
        · exact ih _ _ _ _ _ h
        · cases h
      · cases h
def DOk (l : Launch) (cA : Nat → ClassId) (D : va_G) (B0 d : Nat) : Prop := ∀ (mm n : Nat) (σ : Sg) (ρ : Rh) (t a : Nat) (q' : DS), mm < 259 → (mY mm).name = "<init>" → mR mm = none → t = mO mm + 1 → vokd n (t, .ref a) → GDm n σ ρ → dgo d (mO mm) (mL mm) (dK mm) (0, ent (mL mm) [(t, .ref a)], [], n, σ, ρ) 400 = some q' →
  ∀ ad, Met l (mY mm) (mW mm) (rmC d (q'.2.2.2.1 - n) (szs q'.2.2.2.1 - szs n)) (PD cA D B0 n σ ρ ad (t, .ref a)) (QD cA D B0 n q'.2.2.2.1 q'.2.2.2.2.1 q'.2.2.2.2.2 ad) (q'.2.2.2.1 - n) (szs q'.2.2.2.1 - szs n) (fun q => B0 ≤ q)
set_option maxHeartbeats 4000000 in
theorem dfr {p : Program} {l : Launch} {e : Env} {R : Room} {s : State} {m : MethodId} {args : Array Value} {below : List Frame} {meth : Method} {c : Code} {Q : State → Prop} {cA : Nat → ClassId} {D : va_G} {B0 : Nat} {cc : ByteArray} {nL ow n0 nM d : Nat} {ad0 : Nat → Nat} {K : List (Nat × Instr × Nat)} (hk : kok cc K) (X : FD p R s m args meth c cA D B0 cc nL ow n0 nM) (hRd : d + 1 ≤ R.frames ∧ 64 * (d + 1) ≤ R.locals) (hO : DOk l cA D B0 d) :
    ∀ (fu : Nat) (q q' : DS), dgo (d + 1) ow nL K q fu = some q' → n0 ≤ q.2.2.2.1 → q'.2.2.2.1 ≤ nM → GDd nL q → (fetch K q'.1 = some .return_ ∧ q'.2.2.1 = []) ∧ ((GDd nL q' → WD p l e R s m args below meth c Q cA D B0 nL n0 ad0 q') → WD p l e R s m args below meth c Q cA D B0 nL n0 ad0 q) := by
  intro fu
  induction fu with
  | zero => intro q q' h; cases h
  | succ fu ih =>
    intro q q' h hn0 hM hg
    rw [dgo_s] at h
    split at h
    · rename_i hf
      split at h
      · rename_i hs
        cases h
        exact ⟨⟨hf, hs⟩, fun k => k hg⟩
      · cases h
    · rename_i i hf
      obtain ⟨len, hmem⟩ := fetch_mem hf
      obtain ⟨hd, hlen⟩ := hk _ hmem
      have hlen := eq_of_beq (show (len == il (.invokespecial i)) = true from hlen)
      subst hlen
      split at h
      · rename_i y hm
        split at h
        · split at h
          · rename_i hr
            have hr := Nat.le_of_ble_eq_true hr
            obtain ⟨g1, m1, k1⟩ := dd_obj (l := l) (e := e) (below := below) (Q := Q) (ad0 := ad0) X hd hm hr hg
            obtain ⟨f2, k2⟩ := ih _ q' h (Nat.le_trans hn0 m1) hM g1
            exact ⟨f2, fun k => k1 (k2 k)⟩
          · cases h
        · cases h
      · rename_i kk mm hkk0 hm
        split at h
        · rename_i pc lo t a r n σ ρ
          split at h
          · rename_i hq
            simp only [Bool.and_eq_true] at hq
            have ht := Nat.eq_of_beq_eq_true hq.1
            have hr := Nat.le_of_ble_eq_true hq.2.1
            have hkk := Nat.le_of_ble_eq_true hq.2.2
            split at h
            · rename_i x1 x2 x3 n' σ' ρ' hcall
              obtain ⟨w, hw⟩ := look_mem hm
              obtain ⟨z1, z2, z3, z4, z5⟩ := dm_ok ow X.2.2.2.2.2.2.2.2.2.1 _ hw (by show kk ≠ 0; omega)
              have hmono := dgo_mono _ _ _ _ _ _ _ hcall
              simp only at hmono
              have hmono2 := dgo_mono _ _ _ _ _ _ _ h
              simp only at hmono2
              have hMet := hO mm n σ ρ t a _ z3 z1 z5 ht (hg.2.2.1 _ List.mem_cons_self) ⟨hg.2.2.2.1, hg.2.2.2.2⟩ hcall
              have k1 := dd_call (l := l) (e := e) (below := below) (Q := Q) (ad0 := ad0) X hd hm hkk ht hr hn0 hmono (Nat.le_trans hmono2 hM) hRd hg hMet
              have hst0 := dgo_end _ _ _ _ _ _ _ h
              exact ⟨hst0, fun k => k1 (fun g1 => (ih _ q' h (Nat.le_trans hn0 hmono) hM g1).2 k)⟩
            · cases h
          · cases h
        · cases h
      · cases h
    · rename_i i hi1 hi2 hf
      obtain ⟨len, hmem⟩ := fetch_mem hf
      obtain ⟨hd, hlen⟩ := hk _ hmem
      split at h
      · rename_i q1 hq
        have hmono2 := dgo_mono _ _ _ _ _ _ _ h
        obtain ⟨g1, m1, k1⟩ := de_ok (l := l) (e := e) (below := below) (Q := Q) (ad0 := ad0) X hn0 hd hlen hg hq (Nat.le_trans hmono2 hM)
        obtain ⟨f2, k2⟩ := ih _ q' h (Nat.le_trans hn0 m1) hM g1
        exact ⟨f2, fun k => k1 (k2 k)⟩
      · cases h
    · cases h
theorem dK_kok (mm : Nat) : kok (mC mm) (dK mm) := by
  unfold dK
  split
  · rename_i q hq
    have h1 := List.mem_of_find?_eq_some hq
    have h2 := List.find?_some hq
    have := Nat.eq_of_beq_eq_true h2
    rw [← this]
    exact dK_ok q h1
  · intro q hq; cases hq
set_option maxHeartbeats 4000000 in
theorem dmet (l : Launch) (cA : Nat → ClassId) (D : va_G) (B0 : Nat) : ∀ d, DOk l cA D B0 d := by
  intro d
  induction d with
  | zero => intro mm n σ ρ t a q' _ _ _ _ _ _ h; cases h
  | succ d ihd =>
    intro mm n σ ρ t a q' hlt hnm hret ht hv hgm hrun
    have hmt := mt_init mm (by omega)
    have hg : GDd (mL mm) (0, ent (mL mm) [(t, .ref a)], [], n, σ, ρ) := by
      refine ⟨?_, fun v hv' => Or.inl ?_, fun v hv' => absurd hv' List.not_mem_nil, hgm.1, hgm.2⟩
      · have : 1 ≤ mL mm := mt_one mm hlt hnm
        simp only [ent, lent, List.length_append, List.length_replicate]
        simp [Value.category]
        omega
      · have := ent_mem hv'
        rw [List.mem_singleton.mp this]; exact hv
    have hmono := dgo_mono _ _ _ _ _ _ _ hrun
    simp only at hmono
    have body : ∀ (ad : Nat → Nat) (p : Program) (e : Env) (s : State) (m : MethodId) (args : Array Value) (below : List Frame) (meth : Method) (c : Code), FD p (rmC (d + 1) (q'.2.2.2.1 - n) (szs q'.2.2.2.1 - szs n)) s m args meth c cA D B0 (mC mm) (mL mm) (mO mm) n q'.2.2.2.1 → meth.sig.returnType = none → meth.locks = false → WD p l e (rmC (d + 1) (q'.2.2.2.1 - n) (szs q'.2.2.2.1 - szs n)) s m args below meth c (MQ below (QD cA D B0 n q'.2.2.2.1 q'.2.2.2.2.1 q'.2.2.2.2.2 ad) args s (q'.2.2.2.1 - n) (szs q'.2.2.2.1 - szs n) (fun q => B0 ≤ q)) cA D B0 (mL mm) n ad (0, ent (mL mm) [(t, .ref a)], [], n, σ, ρ) := by
      intro ad p e s m args below meth c X hr hl
      obtain ⟨⟨f2, hst⟩, k2⟩ := dfr (l := l) (e := e) (below := below) (Q := MQ below (QD cA D B0 n q'.2.2.2.1 q'.2.2.2.2.1 q'.2.2.2.2.2 ad) args s (q'.2.2.2.1 - n) (szs q'.2.2.2.1 - szs n) (fun q => B0 ≤ q)) (ad0 := ad) (dK_kok mm) X ⟨Nat.le_refl _, Nat.le_refl _⟩ ihd 400 _ q' hrun (Nat.le_refl _) (Nat.le_refl _) hg
      refine k2 (fun g2 => ?_)
      obtain ⟨pc', lo', st', n', σ', ρ'⟩ := q'
      obtain ⟨len, hmem⟩ := fetch_mem f2
      obtain ⟨hd, hlen⟩ := dK_kok mm _ hmem
      have hlen := eq_of_beq (show (len == il .return_) = true from hlen)
      subst hlen
      have hst : st' = [] := hst
      subst hst
      intro ad' H locs ls ha h1 h2 h3 h4
      exact W.vret X.1 X.2.1 hr (fun t ht hW => ⟨rfl, ⟨g2.2.2.2.1, g2.2.2.2.2⟩, ⟨ad', ha, by rw [ht]; exact h2, h3⟩, h4.F ht⟩) h4.2.2 hd hl
    intro ad
    refine Met.ofW (cc := mC mm) (maxL := mL mm) (ret := mR mm) (mt_plain mm (by omega)) rfl ?_
    intro p e s m args below meth c s₁ B hml hvp
    obtain ⟨rfl, hP, hK, hA, hBs⟩ := hvp
    have hts := atoms_spec (ws := mW mm) B.pre
    have hown : s.vm.findClass (cR (mO mm)) = some m.cls := by
      rw [← hmt.2.1]; exact findClass_of_methodNamed B.named
    have X : FD p (rmC (d + 1) (q'.2.2.2.1 - n) (szs q'.2.2.2.1 - szs n)) s m [cv ad (t, Value.ref a)].toArray meth c cA D B0 (mC mm) (mL mm) (mO mm) n q'.2.2.2.1 := ⟨B.exec, B.bytes, hml, hown, fun w hw => hts w (List.mem_cons_of_mem _ hw), hK, Or.inr (by rw [(name_of_methodNamed B.named B.method).1]; exact hnm), hBs, ⟨by show 1 ≤ d + 1; omega, by show 64 ≤ 64 * (d + 1); omega⟩, mt_ow mm hlt, ⟨Nat.le_refl _, Nat.le_refl _⟩⟩
    have b := body ad p e s m _ below meth c X (by rw [B.returns, hret]) B.notSynchronized
    have hone : 1 ≤ mL mm := mt_one mm hlt hnm
    rw [lg_entry_eq]
    have hl := lv_entry [cv ad (t, Value.ref a)] (n := mL mm) (by simpa [lg_sl, cv, Value.category] using hone)
    rw [show lv_args 0 [cv ad (t, Value.ref a)] = prs ad 0 (ent (mL mm) [(t, .ref a)]) from (lent_args (ad := ad) (mL mm - (lent [(t, Value.ref a)]).length) [(t, .ref a)] 0).symm] at hl
    have b2 := b ad s.heap [] _ (fun _ _ => rfl) hl hP hA va_S.rf
    simp only [Nat.sub_self] at b2
    exact b2
