theorem mt_init : ∀ m, m < 263 → lw_tbl[wNl.getD m 0]? = some (Cond.initialized (mY m).cls) ∧ (mY m).cls = cR (mO m) ∧ mL m ≤ 40 ∧ ((mY m).cls ≠ "java/lang/invoke/MethodHandle" ∧ (mY m).cls ≠ "java/lang/invoke/VarHandle") := by decide +kernel
theorem mt_desc : ∀ m, m < 263 → (parseMethodDescriptor (mY m).desc).map (fun d => d.parameters.length) = some ((mA m).length - (if mS m then 0 else 1)) := by decide +kernel
theorem mt_stat : ∀ m, m < 263 → if mS m then lw_tbl[wIl.getD m 0]? = some (Cond.static (mY m)) else lw_tbl[wIl.getD m 0]? = some (Cond.instanceMethod (mY m)) := by decide +kernel
theorem mt_sel : ∀ m, m < 263 → mS m = true ∨ (mY m).name = "<init>" ∨ lw_tbl[wSl.getD m 0]? = some (Cond.selects (mY m).cls (mY m) (mY m)) := by decide +kernel
theorem mt_plain : ∀ m, m < 260 → plainName (mY m).cls = true := by decide +kernel
theorem mr_ok0 : ∀ ow, ow < 17 → ∀ q ∈ mrl.getD ow [], q.2.1 = 0 → lw_tbl[q.2.2.2]? = some (Cond.methodLink (cR ow) q.1 (mY q.2.2.1)) := by decide +kernel
theorem mr_ok0s : ∀ ow, ow < 17 → ∀ q ∈ mrl.getD ow [], q.2.1 = 0 → (mS q.2.2.1 = false ∧ (mY q.2.2.1).name ≠ "<init>") := by decide +kernel
theorem mr_ok1 : ∀ ow, ow < 17 → ∀ q ∈ mrl.getD ow [], q.2.1 = 1 → lw_tbl[q.2.2.2]? = some (Cond.methodLink (cR ow) q.1 (mY q.2.2.1)) := by decide +kernel
theorem mr_ok12 : ∀ ow, ow < 17 → ∀ q ∈ mrl.getD ow [], (q.2.1 = 1 ∨ q.2.1 = 2) → mS q.2.2.1 = true := by decide +kernel
theorem mr_ok2 : ∀ ow, ow < 17 → ∀ q ∈ mrl.getD ow [], q.2.1 = 2 → Cond.methodLinkNest (cR ow) q.1 (mY q.2.2.1) RX10 ∈ NW := by decide +kernel
theorem mr_lt : ∀ ow, ow < 17 → ∀ q ∈ mrl.getD ow [], q.2.2.1 < 263 := by decide +kernel
