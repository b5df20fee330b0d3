def nT (A : Nat → Int32) : Nat := (A 2).toNatClampNeg
def nK (A : Nat → Int32) : Nat := (A 3).toNatClampNeg
def WTx (A : Nat → Int32) : Prop := A 2 = nI (nT A) ∧ nT A ≤ 10
def WKp (A : Nat → Int32) : Prop := A 3 = nI (nK A) ∧ nK A ≤ 8
def WZ (A : Nat → Int32) : Prop := ∀ j, 2350 ≤ j → A j = 0
def WSA (A : Nat → Int32) : Prop := WF A ∧ WTx A ∧ WKp A ∧ WZ A
def RT (σ : Sg) (w0 : Nat) (A : Nat → Int32) : Prop := ∀ t, t < nT A → ∃ key c L, TXok key L ∧ TXm A t key c L ∧ TXc σ (w0 + 2 * t) key c L
def RK (σ : Sg) (k0 : Nat) (A : Nat → Int32) : Prop := σ k0 3 = A 3 ∧ ∀ k, k < nK A → σ (k0 + 1) k = A (110 + 3 * k) ∧ σ (k0 + 2) k = A (110 + 3 * k + 1) ∧ σ (k0 + 3) k = A (110 + 3 * k + 2)
def RS (σ : Sg) (st : Nat) (A : Nat → Int32) : Prop := RF σ (st + 1) A ∧ σ st 2 = A 2 ∧ RT σ (st + 24) A ∧ RK σ (st + 20) A
def pvI (k b s : Int32) : Int32 := if s ≤ 0 then shpI k b - 1 else s - 1
abbrev TE : Type := Nat × Nat × Int32 × Int32
def shA (A : Nat → Int32) (p : Nat) : Int32 := A (20 + 6 * p + 5)
def TRS (A : Nat → Int32) : (Nat → Int32) → List TE → Prop
  | _, [] => True
  | sh, e :: r => e.1 < 5 ∧ e.2.1 < nB A ∧ (e.1 ≤ 2 → ∃ q, q < nB A ∧ e.2.2.1 = nI q) ∧ (e.1 ≠ 3 → e.2.2.2 = e.2.2.1) ∧ (e.1 = 3 → e.2.2.2 = pvI (A (20 + 6 * e.2.1)) (A (20 + 6 * e.2.1 + 2)) (sh e.2.1)) ∧ TRS A (if e.1 = 3 then ua sh e.2.1 e.2.2.2 else sh) r
def TRLc (σ : Sg) (E : List TE) : Prop := σ 110 4 = nI E.length ∧ ∃ nx, nx < 20 ∧ σ 110 3 = nI nx ∧ ∀ i e, E[i]? = some e → σ 111 ((nx + 19 - i) % 20) = nI e.1 ∧ σ 112 ((nx + 19 - i) % 20) = nI e.2.1 ∧ σ 113 ((nx + 19 - i) % 20) = e.2.2.1
def TRLm (τ : Sg) (E : List TE) : Prop := τ 150 5 = nI E.length ∧ ∀ i e, E[i]? = some e → τ 154 (3 * (E.length - 1 - i)) = nI e.1 ∧ τ 154 (3 * (E.length - 1 - i) + 1) = nI e.2.1 ∧ τ 154 (3 * (E.length - 1 - i) + 2) = e.2.2.2
def TRL (σ τ : Sg) (A : Nat → Int32) : Prop := ∃ E : List TE, E.length ≤ 20 ∧ TRLc σ E ∧ TRLm τ E ∧ TRS A (shA A) E
def TP (σ τ : Sg) : Prop := ∃ len, len ≤ 96 ∧ σ 114 1 = nI len ∧ τ 150 23 = nI len ∧ ∀ i, i < len → σ 115 i = τ 167 i ∧ sm 255 (τ 167 i)
def SHT (σ τ : Sg) : Prop := ∀ k, k < 4 → σ (120 + 2 * k) 0 = τ 155 k ∧ σ (120 + 2 * k) 1 = τ 156 k ∧ (∀ i, i < 24 → σ (121 + 2 * k) i = τ 157 (24 * k + i)) ∧ (τ 155 k = -1 ∨ sm 2 (τ 155 k)) ∧ sm 24 (τ 156 k)
def SLT (σ τ : Sg) : Prop := ∀ k, k < 5 → σ (129 + 4 * k) 0 = τ 158 k ∧ sm 3 (τ 158 k) ∧ (τ 158 k = 1 → BR σ (130 + 4 * k) (τ 161) (24 * k) ∧ VA (τ 161) (24 * k)) ∧ (τ 158 k = 2 → σ (131 + 4 * k) 1 = τ 160 k ∧ sm 24 (τ 160 k) ∧ ∀ i, i < 24 → σ (132 + 4 * k) i = τ 161 (24 * k + i)) ∧ (τ 158 k = 3 → σ (129 + 4 * k) 3 = τ 159 k)
def WTG (σ τ : Sg) : Prop := ∃ w, w ≤ 60 ∧ σ 0 10 = nI w ∧ τ 150 38 = nI w ∧ ∀ i, i < w → σ 149 i = τ 171 i
def mCr (k : Nat) : Int32 := if k = 3 then 99 else if k = 4 then 240 else 9
def CST (σ τ : Sg) : Prop := KA σ ∧ OT σ ∧ ∀ k, k < 5 → σ 901 k = (if k = 4 then 1 else 0) ∧ σ 902 k = mCr k ∧ τ 162 k = mCr k
def IMG (σ τ : Sg) : Prop := σ 0 2 = τ 150 3 ∧ WZ (τ 152) ∧ WZ (τ 153) ∧ (τ 150 3 = 0 ∨ (τ 150 3 = 1 ∧ WSA (τ 152) ∧ RS σ 45 (τ 152)))
def InvR (σ τ : Sg) : Prop := WSA (τ 151) ∧ RS σ 1 (τ 151) ∧ IMG σ τ ∧ TRL σ τ (τ 151) ∧ TP σ τ ∧ SHT σ τ ∧ SLT σ τ ∧ WTG σ τ ∧ CST σ τ
theorem TXc_c {σ ρ : Sg} {w key c : Nat} {L : List (Nat × Int32)} (h : TXc σ w key c L) (e0 : ρ w = σ w) (e1 : ρ (w + 1) = σ (w + 1)) : TXc ρ w key c L := by
  unfold TXc at h ⊢; rw [e0, e1]; exact h
theorem RS_c {σ ρ : Sg} {st : Nat} {A : Nat → Int32} (hw : WSA A) (h : RS σ st A) (e : ∀ c, st ≤ c → c < st + 44 → c ≠ st + 7 → ρ c = σ c) : RS ρ st A := by
  obtain ⟨h1, h2, h3, h4⟩ := h
  have n10 := hw.2.1.2
  refine ⟨RF_c h1 hw.1.n8 (fun c a b d => e c (by omega) (by omega) (by omega)), by rw [e st (by omega) (by omega) (by omega)]; exact h2, ?_, ?_⟩
  · intro t ht
    obtain ⟨key, c, L, k1, k2, k3⟩ := h3 t ht
    exact ⟨key, c, L, k1, k2, TXc_c k3 (e _ (by omega) (by omega) (by omega)) (e _ (by omega) (by omega) (by omega))⟩
  · refine ⟨by rw [e _ (by omega) (by omega) (by omega)]; exact h4.1, ?_⟩
    intro k hk
    rw [e (st + 20 + 1) (by omega) (by omega) (by omega), e (st + 20 + 2) (by omega) (by omega) (by omega), e (st + 20 + 3) (by omega) (by omega) (by omega)]
    exact h4.2 k hk
theorem IMG_c {σ τ ρ κ : Sg} (h : IMG σ τ) (e0 : ρ 0 2 = σ 0 2) (e : ∀ c, 45 ≤ c → c < 89 → c ≠ 52 → ρ c = σ c) (k3 : κ 150 3 = τ 150 3) (k2 : κ 152 = τ 152) (kz : WZ (κ 153)) : IMG ρ κ := by
  obtain ⟨h1, h2, h3, h4⟩ := h
  refine ⟨by rw [e0, k3]; exact h1, by rw [k2]; exact h2, kz, ?_⟩
  rw [k3, k2]
  rcases h4 with h4 | ⟨a, b, d⟩
  · exact .inl h4
  · exact .inr ⟨a, b, RS_c b d (fun c h1 h2 h3 => e c h1 (by omega) (by omega))⟩
theorem TRLc_c {σ ρ : Sg} {E : List TE} (h : TRLc σ E) (e : ∀ c, 110 ≤ c → c < 114 → ρ c = σ c) : TRLc ρ E := by
  unfold TRLc at h ⊢
  rw [e 110 (by omega) (by omega), e 111 (by omega) (by omega), e 112 (by omega) (by omega), e 113 (by omega) (by omega)]; exact h
theorem TRLm_c {τ κ : Sg} {E : List TE} (h : TRLm τ E) (e5 : κ 150 5 = τ 150 5) (e : κ 154 = τ 154) : TRLm κ E := by
  unfold TRLm at h ⊢; rw [e5, e]; exact h
theorem TRS_c {A B : Nat → Int32} (hn : nB B = nB A) (hk : ∀ p, p < nB A → B (20 + 6 * p) = A (20 + 6 * p) ∧ B (20 + 6 * p + 2) = A (20 + 6 * p + 2)) : ∀ (E : List TE) (sh sh' : Nat → Int32), (∀ p, p < nB A → sh' p = sh p) → TRS A sh E → TRS B sh' E := by
  intro E
  induction E with
  | nil => intro _ _ _ _; trivial
  | cons e r ih =>
    intro sh sh' hs h
    obtain ⟨h1, h2, h3, h4, h5, h6⟩ := h
    refine ⟨h1, by rw [hn]; exact h2, by rw [hn]; exact h3, h4, ?_, ?_⟩
    · intro e3; rw [(hk _ h2).1, (hk _ h2).2, hs _ h2]; exact h5 e3
    · refine ih _ _ ?_ h6
      intro p hp
      by_cases c : e.1 = 3
      · rw [if_pos c, if_pos c]
        by_cases q : p = e.2.1
        · rw [q, ua_s, ua_s]
        · rw [ua_n q, ua_n q]; exact hs p hp
      · rw [if_neg c, if_neg c]; exact hs p hp
theorem TP_c {σ τ ρ κ : Sg} (h : TP σ τ) (e1 : ρ 114 1 = σ 114 1) (e2 : ρ 115 = σ 115) (k1 : κ 150 23 = τ 150 23) (k2 : κ 167 = τ 167) : TP ρ κ := by
  unfold TP at h ⊢; rw [e1, e2, k1, k2]; exact h
theorem SHT_c {σ τ ρ κ : Sg} (h : SHT σ τ) (e : ∀ c, 120 ≤ c → c < 128 → ρ c = σ c) (k5 : κ 155 = τ 155) (k6 : κ 156 = τ 156) (k7 : κ 157 = τ 157) : SHT ρ κ := by
  intro k hk
  have := h k hk
  rw [e (120 + 2 * k) (by omega) (by omega), e (121 + 2 * k) (by omega) (by omega), k5, k6, k7]
  exact this
theorem SLT_c {σ τ ρ κ : Sg} (h : SLT σ τ) (e : ∀ c, 129 ≤ c → c < 149 → ρ c = σ c) (k8 : κ 158 = τ 158) (k9 : κ 159 = τ 159) (k0 : κ 160 = τ 160) (k1 : κ 161 = τ 161) : SLT ρ κ := by
  intro k hk
  have := h k hk
  unfold BR at this ⊢
  rw [e (129 + 4 * k) (by omega) (by omega), e (130 + 4 * k) (by omega) (by omega), e (131 + 4 * k) (by omega) (by omega), e (132 + 4 * k) (by omega) (by omega), k8, k9, k0, k1]
  exact this
theorem WTG_c {σ τ ρ κ : Sg} (h : WTG σ τ) (e1 : ρ 0 10 = σ 0 10) (e2 : ρ 149 = σ 149) (k1 : κ 150 38 = τ 150 38) (k2 : κ 171 = τ 171) : WTG ρ κ := by
  unfold WTG at h ⊢; rw [e1, e2, k1, k2]; exact h
theorem CST_c {σ τ ρ κ : Sg} (h : CST σ τ) (e : ∀ c, 900 ≤ c → c < 904 → ρ c = σ c) (k : κ 162 = τ 162) : CST ρ κ := by
  unfold CST KA OT at h ⊢
  rw [e 900 (by omega) (by omega), e 901 (by omega) (by omega), e 902 (by omega) (by omega), e 903 (by omega) (by omega), k]; exact h
/-- a question changes scratch alone -/
def CQ (σ τ : Sg) : Prop := (∀ c, c < 90 ∨ 110 ≤ c → c ≠ 8 → c ≠ 114 → c ≠ 116 → c ≠ 117 → c ≠ 118 → τ c = σ c) ∧ τ 114 1 = σ 114 1
theorem CQ.r (σ : Sg) : CQ σ σ := ⟨fun _ _ _ _ _ _ _ => rfl, rfl⟩
theorem CQ_1 {σ τ : Sg} (h : ∀ c, c ≠ 8 → τ c = σ c) : CQ σ τ := ⟨fun c _ a _ _ _ _ => h c a, by rw [h 114 (by omega)]⟩
theorem CQ_e {σ τ : Sg} (h : FE σ τ) : CQ σ τ := ⟨fun c _ a _ _ _ b => h c a b, by rw [h 114 (by omega) (by omega)]⟩
theorem CQ_s {σ τ : Sg} (h : FBs σ τ) : CQ σ τ := ⟨fun c a _ _ _ _ _ => h c a, by rw [h 114 (by omega)]⟩
theorem CQ.t {σ τ ρ : Sg} (h : CQ σ τ) (k : CQ τ ρ) : CQ σ ρ := ⟨fun c a b d e f g => (k.1 c a b d e f g).trans (h.1 c a b d e f g), k.2.trans h.2⟩
theorem CQ.m {σ τ : Sg} (h : CQ σ τ) {c : Nat} (hc : 150 ≤ c) : τ c = σ c := h.1 c (by omega) (by omega) (by omega) (by omega) (by omega) (by omega)
theorem inv_q {σ τ ρ : Sg} (h : InvR σ σ) (q : CQ σ τ) (f : FS τ ρ) : InvR ρ ρ := by
  obtain ⟨i1, i2, i3, i4, i5, i6, i7, i8, i9⟩ := h
  have e : ∀ c, (c < 90 ∨ (110 ≤ c ∧ c < 150) ∨ (151 ≤ c ∧ c < 163) ∨ 170 ≤ c) → c ≠ 8 → c ≠ 114 → c ≠ 116 → c ≠ 117 → c ≠ 118 → ρ c = σ c := fun c h1 h2 h3 h4 h5 h6 => by
    rw [f.1 c (by omega) (by omega) (by omega) (by omega) (by omega) (by omega) (by omega)]
    exact q.1 c (by omega) h2 h3 h4 h5 h6
  have e7 : ρ 167 = σ 167 := by
    rw [f.1 167 (by omega) (by omega) (by omega) (by omega) (by omega) (by omega) (by omega)]
    exact q.m (by omega)
  have s : ∀ j, j ≠ 17 → j ≠ 18 → j ≠ 20 → j ≠ 21 → ρ 150 j = σ 150 j := fun j a b d g => by rw [f.2 j a b d g, q.m (by omega)]
  have e1 : ρ 151 = σ 151 := e 151 (by omega) (by omega) (by omega) (by omega) (by omega) (by omega)
  unfold InvR
  rw [e1]
  refine ⟨i1, RS_c i1 i2 (fun c a b d => e c (by omega) (by omega) (by omega) (by omega) (by omega) (by omega)), ?_, ?_, ?_, ?_, ?_, ?_, ?_⟩
  · refine IMG_c i3 (by rw [e 0 (by omega) (by omega) (by omega) (by omega) (by omega) (by omega)]) (fun c a b d => e c (by omega) (by omega) (by omega) (by omega) (by omega) (by omega)) (s 3 (by omega) (by omega) (by omega) (by omega)) (e 152 (by omega) (by omega) (by omega) (by omega) (by omega) (by omega)) ?_
    rw [e 153 (by omega) (by omega) (by omega) (by omega) (by omega) (by omega)]; exact i3.2.2.1
  · obtain ⟨E, l, a, b, d⟩ := i4
    exact ⟨E, l, TRLc_c a (fun c h1 h2 => e c (by omega) (by omega) (by omega) (by omega) (by omega) (by omega)), TRLm_c b (s 5 (by omega) (by omega) (by omega) (by omega)) (e 154 (by omega) (by omega) (by omega) (by omega) (by omega) (by omega)), d⟩
  · refine TP_c i5 ?_ (e 115 (by omega) (by omega) (by omega) (by omega) (by omega) (by omega)) (s 23 (by omega) (by omega) (by omega) (by omega)) e7
    rw [f.1 114 (by omega) (by omega) (by omega) (by omega) (by omega) (by omega) (by omega)]; exact q.2
  · exact SHT_c i6 (fun c a b => e c (by omega) (by omega) (by omega) (by omega) (by omega) (by omega)) (e _ (by omega) (by omega) (by omega) (by omega) (by omega) (by omega)) (e _ (by omega) (by omega) (by omega) (by omega) (by omega) (by omega)) (e _ (by omega) (by omega) (by omega) (by omega) (by omega) (by omega))
  · exact SLT_c i7 (fun c a b => e c (by omega) (by omega) (by omega) (by omega) (by omega) (by omega)) (e _ (by omega) (by omega) (by omega) (by omega) (by omega) (by omega)) (e _ (by omega) (by omega) (by omega) (by omega) (by omega) (by omega)) (e _ (by omega) (by omega) (by omega) (by omega) (by omega) (by omega)) (e _ (by omega) (by omega) (by omega) (by omega) (by omega) (by omega))
  · exact WTG_c i8 (by rw [e 0 (by omega) (by omega) (by omega) (by omega) (by omega) (by omega)]) (e _ (by omega) (by omega) (by omega) (by omega) (by omega) (by omega)) (s _ (by omega) (by omega) (by omega) (by omega)) (e _ (by omega) (by omega) (by omega) (by omega) (by omega) (by omega))
  · exact CST_c i9 (fun c a b => e c (by omega) (by omega) (by omega) (by omega) (by omega) (by omega)) (e _ (by omega) (by omega) (by omega) (by omega) (by omega) (by omega))
/-- the laying of now changes, with its trail -/
theorem inv_now {σ ρ : Sg} (h : InvR σ σ) (w : WSA (ρ 151)) (r : RS ρ 1 (ρ 151)) (t : TRL ρ ρ (ρ 151)) (e : ∀ c, c = 0 ∨ (45 ≤ c ∧ c < 89) ∨ (115 ≤ c ∧ c < 150) ∨ (152 ≤ c ∧ c < 163 ∧ c ≠ 154) ∨ c = 167 ∨ c = 171 ∨ 900 ≤ c → c ≠ 116 → c ≠ 117 → c ≠ 118 → ρ c = σ c) (e1 : ρ 114 1 = σ 114 1) (s : ρ 150 3 = σ 150 3 ∧ ρ 150 23 = σ 150 23 ∧ ρ 150 38 = σ 150 38) : InvR ρ ρ := by
  obtain ⟨i1, i2, i3, i4, i5, i6, i7, i8, i9⟩ := h
  refine ⟨w, r, ?_, t, ?_, ?_, ?_, ?_, ?_⟩
  · refine IMG_c i3 (by rw [e 0 (by omega) (by omega) (by omega) (by omega)]) (fun c a b d => e c (by omega) (by omega) (by omega) (by omega)) s.1 (e 152 (by omega) (by omega) (by omega) (by omega)) ?_
    rw [e 153 (by omega) (by omega) (by omega) (by omega)]; exact i3.2.2.1
  · exact TP_c i5 e1 (e 115 (by omega) (by omega) (by omega) (by omega)) s.2.1 (e 167 (by omega) (by omega) (by omega) (by omega))
  · exact SHT_c i6 (fun c a b => e c (by omega) (by omega) (by omega) (by omega)) (e _ (by omega) (by omega) (by omega) (by omega)) (e _ (by omega) (by omega) (by omega) (by omega)) (e _ (by omega) (by omega) (by omega) (by omega))
  · exact SLT_c i7 (fun c a b => e c (by omega) (by omega) (by omega) (by omega)) (e _ (by omega) (by omega) (by omega) (by omega)) (e _ (by omega) (by omega) (by omega) (by omega)) (e _ (by omega) (by omega) (by omega) (by omega)) (e _ (by omega) (by omega) (by omega) (by omega))
  · exact WTG_c i8 (by rw [e 0 (by omega) (by omega) (by omega) (by omega)]) (e _ (by omega) (by omega) (by omega) (by omega)) s.2.2 (e _ (by omega) (by omega) (by omega) (by omega))
  · exact CST_c i9 (fun c a b => e c (by omega) (by omega) (by omega) (by omega)) (e _ (by omega) (by omega) (by omega) (by omega))
/-- what a call must do -/
def Call (σ : Sg) (X : RO) (Y : Sg → RO) : Prop := ∃ v τ ρ, X = some (v, τ) ∧ Y τ = some (v, ρ) ∧ InvR ρ ρ ∧ τ 990 = σ 990 ∧ ρ 990 = σ 990
theorem call_q {σ : Sg} {X : RO} {Y : Sg → RO} (h : InvR σ σ) (v : Int32) (hX : Gv X (fun r τ => r = v ∧ CQ σ τ)) (hY : ∀ τ, CQ σ τ → Gv (Y τ) (fun r ρ => r = v ∧ FS τ ρ)) : Call σ X Y := by
  obtain ⟨r, τ, e1, rfl, q⟩ := hX
  obtain ⟨r2, ρ, e2, hr, f⟩ := hY τ q
  rw [hr] at e2
  refine ⟨r, τ, ρ, e1, e2, inv_q h q f, q.m (by omega), ?_⟩
  rw [f.1 990 (by omega) (by omega) (by omega) (by omega) (by omega) (by omega) (by omega)]
  exact q.m (by omega)
