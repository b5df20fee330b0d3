def rmC (d nc ns : Nat) : Room := { frames := d, cells := nc, slots := ns, locals := 64 * d }
def GDm (n : Nat) (σ : Sg) (ρ : Rh) : Prop := (∀ c k r, ρ c k = some r → r < n ∧ c < n) ∧ (∀ c, n ≤ c → ∀ k, σ c k = 0) ∧ n ≤ 173
def PD (cA : Nat → ClassId) (D : va_G) (B0 n : Nat) (σ : Sg) (ρ : Rh) (ad0 : Nat → Nat) (v : AV) : Array Value → State → Prop := va_Pc [cv ad0 v] (fun U => va_P D cl12 (wsd n ad0 cA σ ρ) U.heap ∧ DK D cA U ∧ ADn ad0 B0 n ∧ B0 ≤ U.heap.size)
def QD (cA : Nat → ClassId) (D : va_G) (B0 n n' : Nat) (σ' : Sg) (ρ' : Rh) (ad0 : Nat → Nat) : Array Value → State → Outcome → State → Prop := fun _ st oc t => oc = .returned none ∧ GDm n' σ' ρ' ∧ (∃ ad : Nat → Nat, (∀ i, i < n ∨ 173 ≤ i → ad i = ad0 i) ∧ va_P D cl12 (wsd n' ad cA σ' ρ') t.heap ∧ ADn ad B0 n') ∧ va_F (fun q => B0 ≤ q) st t
theorem PD_blind {cA : Nat → ClassId} {D : va_G} {B0 n : Nat} {σ : Sg} {ρ : Rh} {ad0 : Nat → Nat} {v : AV} : FrameBlind (PD cA D B0 n σ ρ ad0 v) := by
  intro a U f mk q
  obtain ⟨q0, qP, qK, qA, qB⟩ := q
  exact ⟨q0, qP, qK.calling, qA, qB⟩
section DST
variable {p : Program} {l : Launch} {e : Env} {R : Room} {s : State} {m : MethodId} {args : Array Value} {below : List Frame} {meth : Method} {c : Code} {Q : State → Prop} {cA : Nat → ClassId} {D : va_G} {B0 : Nat} {cc : ByteArray} {nL ow n0 nM : Nat} {ad0 : Nat → Nat}
variable {pc n : Nat} {lo : LO} {st : List AV} {σ : Sg} {ρ : Rh} {q' : DS}
theorem dd_obj {i t a : Nat} {r : List AV} (X : FD p R s m args meth c cA D B0 cc nL ow n0 nM) (hd : decode cc pc = .ok (.invokespecial i, 3)) {y : Nat} (hm : dm ow i = some (0, y)) (hr : rcat r ≤ 8) (hg : GDd nL (pc, lo, (t, .ref a) :: r, n, σ, ρ)) : OKd p l e R s m args below meth c Q cA D B0 nL n0 ad0 (pc, lo, (t, .ref a) :: r, n, σ, ρ) (pc + 3, lo, r, n, σ, ρ) := by
  obtain ⟨hx, hb, hml, hown, hts, hDK, hin2, hB, hR, how, hRC⟩ := X
  obtain ⟨w, hw⟩ := look_mem hm
  have hlk := dm_ok0 ow how _ hw rfl
  refine ⟨hg.tail, Nat.le_refl _, fun k ad H locs ls ha h1 h2 h3 h4 => ?_⟩
  refine W.objInit hx hb hown (hts _ (tb_mem hlk rfl)) (hts _ (tb_mem wd_obj.1 rfl)) (hts _ (List.mem_filter.mpr ⟨wd_objc, rfl⟩)) rfl (by rw [hml]; exact h1.1) rfl hd hR.1 ?_ (k ad H locs ls ha h1 h2 h3 h4)
  show 2 * 0 + ((r.map (cv ad)).map fun v => v.category).sum + 12 ≤ R.locals
  rw [rcat_map]; omega
theorem dd_call {i mm kk t a d : Nat} {r : List AV} {n' : Nat} {σ' : Sg} {ρ' : Rh} (X : FD p R s m args meth c cA D B0 cc nL ow n0 nM) (hd : decode cc pc = .ok (.invokespecial i, 3)) (hm : dm ow i = some (kk, mm)) (hkk : 1 ≤ kk) (ht : t = mO mm + 1) (hr : rcat r ≤ 8) (hn0 : n0 ≤ n) (hnn : n ≤ n') (hM : n' ≤ nM) (hRd : d + 1 ≤ R.frames ∧ 64 * (d + 1) ≤ R.locals) (hg : GDd nL (pc, lo, (t, .ref a) :: r, n, σ, ρ))
    (hO : ∀ ad, Met l (mY mm) (mW mm) (rmC d (n' - n) (szs n' - szs n)) (PD cA D B0 n σ ρ ad (t, .ref a)) (QD cA D B0 n n' σ' ρ' ad) (n' - n) (szs n' - szs n) (fun q => B0 ≤ q)) : (GDd nL (pc + 3, lo, r, n', σ', ρ') → WD p l e R s m args below meth c Q cA D B0 nL n0 ad0 (pc + 3, lo, r, n', σ', ρ')) → WD p l e R s m args below meth c Q cA D B0 nL n0 ad0 (pc, lo, (t, .ref a) :: r, n, σ, ρ) := by
  obtain ⟨hx, hb, hml, hown, hts, hDK, hin2, hB, hR, how, hRC⟩ := X
  obtain ⟨w, hw⟩ := look_mem hm
  obtain ⟨k1, k2, k3, k4, k5⟩ := dm_ok ow how _ hw (by show kk ≠ 0; omega)
  simp only at k1 k2 k3 k4 k5
  obtain ⟨i1, i2, i3, i4⟩ := mt_init mm (by omega)
  have hdesc := mt_desc mm (by omega)
  have hstat := mt_stat mm (by omega)
  rw [k2] at hdesc hstat
  simp only [Bool.false_eq_true, if_false, k4] at hdesc hstat
  intro k ad H locs ls ha h1 h2 h3 h4
  have hz1 := szs_mono hn0
  have hz2 := szs_mono hnn
  have hz3 := szs_mono hM
  have hpre : PreS s H (PD cA D B0 n σ ρ ad (t, .ref a)) [.ref (ad a)] := ⟨PD_blind, fun U hU hW => ⟨rfl, by rw [hU]; exact h2, hDK.moved hW, h3, by rw [hU]; exact Nat.le_trans hB h4.1⟩⟩
  have hdd : (mY mm).cls ≠ "java/lang/invoke/MethodHandle" ∧ (mY mm).cls ≠ "java/lang/invoke/VarHandle" ∧ (parseMethodDescriptor (mY mm).desc).map (fun d => d.parameters.length) = some 0 := ⟨i4.1, i4.2, hdesc⟩
  have hRR : (rmC d (n' - n) (szs n' - szs n)).frames + 1 ≤ R.frames ∧ 8 + (mL mm + 11) + (rmC d (n' - n) (szs n' - szs n)).locals ≤ R.locals := ⟨hRd.1, by show 8 + (mL mm + 11) + 64 * d ≤ R.locals; omega⟩
  have hroom : 2 * 0 + ((r.map (cv ad)).map fun v => v.category).sum ≤ 8 := by rw [rcat_map]; omega
  have hrun : va_Run p l e R s m args below meth c H locs (n - n0) (szs n - szs n0) (n' - n) (szs n' - szs n) (F0 m pc ls (.ref (ad a) :: r.map (cv ad))) (r.map (cv ad)) (QD cA D B0 n n' σ' ρ' ad (Value.ref (ad a) :: ([] : List Value)).toArray) (fun q => B0 ≤ q) := by
    have hf : n - n0 + (n' - n) ≤ R.cells ∧ szs n - szs n0 + (szs n' - szs n) ≤ R.slots := ⟨by omega, by omega⟩
    have hkk2 : kk = 1 ∨ kk = 2 := by
      have := dm_kk ow how _ hw
      simp only at this
      omega
    have hw9 : mW mm = Cond.code (mY mm) (mC mm) (mL mm) none :: TB := by unfold mW; rw [k5]
    have hG := goodTB mm (by omega)
    have hci : (rmC d (n' - n) (szs n' - szs n)).cells = n' - n := rfl
    have hcs : (rmC d (n' - n) (szs n' - szs n)).slots = szs n' - szs n := rfl
    rcases hkk2 with rfl | rfl
    · exact va_runI (n := 0) (As := []) (b := ad a) (bytes := mC mm) (maxL := mL mm) ⟨hx, hb, hml, hown, hts⟩ (hO ad) ⟨callB_of (bytes := mC mm) (maxL := mL mm) (ret := none) (ws' := TB) 0 hts hG hw9 hci hcs (hts _ (tb_mem i1 rfl)) (hts _ (tb_mem (dm_ok1 ow how _ hw rfl) rfl)) hdd hRR, k1, hts _ (tb_mem hstat rfl)⟩ hpre rfl rfl h1.1 rfl hroom hd hf
    · exact va_runIN (n := 0) (As := []) (b := ad a) (bytes := mC mm) (maxL := mL mm) ⟨hx, hb, hml, hown, hts⟩ (hO ad) ⟨va_cnB (bytes := mC mm) (maxL := mL mm) (ret := none) (ws' := TB) 0 hts hG hw9 hci hcs (hDK.2.2 _ (dm_ok2 ow how _ hw rfl)) (hts _ (tb_mem i1 rfl)) hdd hRR, k1, hts _ (tb_mem hstat rfl)⟩ hpre rfl rfl h1.1 rfl hroom hd hf
  intro T hT X1
  obtain ⟨v, st₀, t0, T', L1, h0, X', hL1, e1, e2, ⟨hv, gm, ⟨ad', hag, hb', hA'⟩, hz, hkk'⟩, stp⟩ := hrun T hT X1
  rw [h0] at hz hkk'
  have hv : v = none := by simpa using hv
  subst hv
  have hst : r.map (cv ad') = r.map (cv ad) := List.map_congr_left (fun v hv => cv_ad (fun i hi => hag i (Or.inl hi)) (hg.tail.2.2.1 v hv))
  have hlo : prs ad' 0 lo = prs ad 0 lo := prs_ad lo 0 (fun v hv => by
    rcases hg.2.1 v hv with h9 | h9
    · exact cv_ad (fun i hi => hag i (Or.inl hi)) h9
    · subst h9
      show Value.ref (ad' 990) = Value.ref (ad 990)
      rw [hag 990 (Or.inr (by omega))])
  have hg' : GDd nL (pc + 3, lo, r, n', σ', ρ') := ⟨hg.1, fun v hv => (hg.2.1 v hv).imp (fun h9 c' hc' => ⟨(h9 c' hc').1, Nat.lt_of_lt_of_le (h9 c' hc').2 hnn⟩) id, fun v hv c' hc' => ⟨(hg.2.2.1 v (List.mem_cons_of_mem _ hv) c' hc').1, Nat.lt_of_lt_of_le (hg.2.2.1 v (List.mem_cons_of_mem _ hv) c' hc').2 hnn⟩, gm⟩
  have kq := k hg' ad' T'.heap (locs ++ L1) ls (fun i hi => by rw [hag i (by omega)]; exact ha i hi) (by simp only; rw [hlo]; exact h1) (by rw [e1]; exact hb') hA'
    ⟨Nat.le_trans h4.1 (by rw [e1]; exact hz), fun q q1 q2 => by rw [e1, hkk' q (Nat.lt_of_lt_of_le q1 h4.1) q2]; exact h4.2.1 q q1 q2, fun q hq => by
      rcases List.mem_append.mp hq with h | h
      · exact h4.2.2 q h
      · exact hL1 q h⟩
  simp only [hst] at kq
  have e3 : n - n0 + (n' - n) = n' - n0 := by omega
  have e4 : szs n - szs n0 + (szs n' - szs n) = szs n' - szs n0 := by omega
  rw [e3, e4] at X'
  obtain ⟨t2, a1, b1⟩ := kq T' rfl X'
  exact ⟨t2, stp t2 a1, b1⟩
end DST
theorem dgo_s (d ow nL : Nat) (K : List (Nat × Instr × Nat)) (q : DS) (fu : Nat) : dgo (d + 1) ow nL K q (fu + 1) = (match fetch K q.1 with
      | some .return_ => match q.2.2.1 with
        | [] => some q
        | _ => none
      | some (.invokespecial i) => match dm ow i with
        | some (0, _) => match q with
          | (pc, lo, (_, .ref _) :: r, n, σ, ρ) => match Nat.ble (rcat r) 8 with
            | true => dgo (d + 1) ow nL K (pc + 3, lo, r, n, σ, ρ) fu
            | false => none
          | _ => none
        | some (kk, mm) => match q with
          | (pc, lo, (t, .ref a) :: r, n, σ, ρ) => match Nat.beq t (mO mm + 1) && (Nat.ble (rcat r) 8 && Nat.ble 1 kk) with
            | true => match dgo d (mO mm) (mL mm) (dK mm) (0, ent (mL mm) [(t, .ref a)], [], n, σ, ρ) 400 with
              | some (_, _, _, n', σ', ρ') => dgo (d + 1) ow nL K (pc + 3, lo, r, n', σ', ρ') fu
              | none => none
            | false => none
          | _ => none
        | none => none
      | some i => match de ow i q with
        | some q' => dgo (d + 1) ow nL K q' fu
        | none => none
      | none => none) := rfl
