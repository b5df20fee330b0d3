def cv (ad : Nat → Nat) (v : AV) : Value := match v.2 with
  | .ref c => .ref (ad c)
  | w => w
def prs (ad : Nat → Nat) (i : Nat) (l : LO) : List (Nat × Value) := match l with
  | [] => []
  | none :: r => prs ad (i + 1) r
  | some v :: r => (i, cv ad v) :: prs ad (i + 1) r
def vok (v : AV) : Prop := ∀ c, v.2 = .ref c → kd c = v.1 ∧ v.1 ≠ 0
def cex (ad : Nat → Nat) (cA : Nat → ClassId) (g : Nat → Int32) (c : Nat) : va_E :=
  if kd c = 20 then .inl (cA 0, aln 0 c, .inl g)
  else if 20 < kd c then .inl (cA (kd c - 20), aln 0 c, .inr (.inr (.inr (.inr (fun i => some (ad (rt c i)))))))
  else .inr (kd c - 1, (List.range (cN (kd c - 1))).map (fun k => if ftg (kd c) k = 0 then .int (g k) else .ref (ad (rt c k))))
def wsl (ad : Nat → Nat) (cA : Nat → ClassId) (σ : Sg) : va_W := (List.range 173).map (fun c => (ad c, cex ad cA (σ c) c))
def tysL (cA : Nat → ClassId) : List (ClassId × FieldType) := [(cA 0, .int), (cA 1, .object RX0), (cA 2, .object RX9), (cA 3, .object RX5), (cA 4, .object RX6)]
def TB : List Cond := lw_tbl.filter goodWord
def snm (j : Nat) : String := ["KIND_ABOVE", "RULE_LEAST", "RULE_MOST", "ORDERS"].getD j ""
def svl : List (List Int32) := [[-1, 0, 0, 2, 1, 0], [0, 0, 0, 0, 1], [9, 9, 9, 99, 240], [1, 1, 2, 6, 24]]
def sva (j i : Nat) : Int32 := (svl.getD j []).getD i 0
def stx (j : Nat) : String := ["all", "block", "whlu", "xywhptg"].getD j ""
def six (j : Nat) : Nat := [43, 53, 94, 96].getD j 0
def slen : List Nat := [3, 5, 4, 7]
def sbyt : List (List Int32) := [[97, 108, 108], [98, 108, 111, 99, 107], [119, 104, 108, 117], [120, 121, 119, 104, 112, 116, 103]]
def NW : List Cond := [.methodLinkNest RX1 126 yX10_swap RX10, .methodLinkNest RX4 68 yX10_swap RX10, .fieldLinkNest RX0 57 RX10 "KIND_ABOVE" "[I" RX10, .fieldLinkNest RX4 42 RX10 "ORDERS" "[I" RX10]
def EX (ad : Nat → Nat) (B0 L : Nat) (xs : Nat → Int32) (U : State) (H : Heap) : Prop :=
  (∀ j, j < 4 → va_Z RX10 (snm j) "[I" (.ref (ad (900 + j))) (fun q => B0 ≤ q) U H ∧ va_T .int (ad (900 + j)) (aln 0 (900 + j)) (fun i => .int (sva j i)) (fun q => B0 ≤ q) U H)
  ∧ (∀ j, j < 4 → vk_R RX3 (six j) (stx j) (ad (950 + j)) U)
  ∧ (∀ w ∈ NW, va_Nw w U)
  ∧ (va_X (ad 990) L xs U H ∧ ad 990 < H.size ∧ ¬ B0 ≤ ad 990)
  ∧ (∃ adV : Nat → Nat, vk_S 4 slen sbyt (fun j => ad (950 + j)) adV (fun q => B0 ≤ q) U H)
  ∧ va_Z "java/lang/String" "COMPACT_STRINGS" "Z" (.int 1) (fun q => B0 ≤ q) U H
  ∧ va_Zq "jdk/internal/util/Preconditions" "SIOOBE_FORMATTER" "Ljava/util/function/BiFunction;" (fun q => B0 ≤ q) U H
def SX (L : Nat) (xs : Nat → Int32) (σ : Sg) : Prop := (∀ j i, j < 4 → i < aln 0 (900 + j) → σ (900 + j) i = sva j i) ∧ ∀ i, i < L → σ 990 i = xs i
def ADok (ad : Nat → Nat) (B0 : Nat) : Prop := (∀ i j, i < 173 → j < 173 → ad i = ad j → i = j) ∧ ∀ i, i < 173 → B0 ≤ ad i
def GD (nL L : Nat) (xs : Nat → Int32) (q : AS) : Prop := q.2.1.length = nL ∧ (∀ v, some v ∈ q.2.1 → vok v) ∧ (∀ v ∈ q.2.2.1, vok v) ∧ SX L xs q.2.2.2
-- facts of the tables
theorem fr_ok : ∀ ow, ow < 12 → ∀ q ∈ frl.getD ow [], lw_tbl[q.2.2.2]? = some (Cond.fieldLink (cR ow) q.1 (cT (q.2.1 - 1) q.2.2.1).1 (cT (q.2.1 - 1) q.2.2.1).2.1 (cT (q.2.1 - 1) q.2.2.1).2.2.1) ∧ q.2.2.1 < cN (q.2.1 - 1) ∧ (1 ≤ q.2.1 ∧ q.2.1 ≤ 12) := by decide +kernel
theorem fr_law : ∀ ow, ow < 17 → 12 ≤ ow → frl.getD ow [] = [] := by decide +kernel
theorem rt_ok : ∀ c, c < 173 → ∀ k, k < cN (kd c - 1) → kd c ≤ 12 → ftg (kd c) k ≠ 0 → kd (rt c k) = ftg (kd c) k := by decide +kernel
theorem rt_ok2 : ∀ c, c < 173 → 21 ≤ kd c → ∀ k, k < aln 0 c → kd (rt c k) = elt (kd c) := by decide +kernel
theorem kd_in : ∀ c, c < 173 → (1 ≤ kd c ∧ kd c ≤ 12) ∨ (20 ≤ kd c ∧ kd c ≤ 24) := by decide +kernel
theorem ft_ok : ∀ t, t < 12 → ∀ k, k < cN t → ftg (t + 1) k = 0 → (cT t k).2.2.2 = false ∧ ((fbo (t + 1) k = 0 ∧ parseFieldDescriptor (cT t k).2.2.1 = some .int) ∨ parseFieldDescriptor (cT t k).2.2.1 = some .boolean) := by decide +kernel
theorem ft_ty : ∀ t, t < 12 → ∀ k, k < cN t → parseFieldDescriptor (cT t k).2.2.1 = some (cTy t k) := by decide +kernel
theorem ft_nm : ∀ t, t < 12 → ∀ a, a < cN t → ∀ b, b < cN t → a ≠ b → (cT t a).2.1 ≠ (cT t b).2.1 := by decide +kernel
theorem cl_at : ∀ t, t < 12 → cl12[t]? = some (cR t, cT t, cN t) := by
  intro t ht
  match t, ht with
  | 0, _ => rfl
  | 1, _ => rfl
  | 2, _ => rfl
  | 3, _ => rfl
  | 4, _ => rfl
  | 5, _ => rfl
  | 6, _ => rfl
  | 7, _ => rfl
  | 8, _ => rfl
  | 9, _ => rfl
  | 10, _ => rfl
  | 11, _ => rfl
  | t + 12, h => exact absurd h (by omega)
def wLl : List (List Nat) := [[149, 151, 153, 155, 157, 159, 161, 163, 165, 167], [204, 206, 208, 210, 212, 214, 216, 218, 220, 222, 224, 226, 228, 230], [249, 251, 253, 255], [356, 358, 360, 362, 364, 366], [309, 311, 313], [381, 383, 385], [406, 408, 410, 412], [286, 288, 290, 292], [328, 330, 332, 334, 336], [269, 271, 273, 275], [426, 428, 430, 432, 434, 436, 438, 440, 442, 444, 446], [1220, 1222, 1224, 1226, 1228, 1230, 1232, 1234, 1236, 1238, 1240, 1242, 1244, 1246, 1248, 1250, 1252, 1254, 1256, 1258, 1260, 1262, 1264, 1266, 1268, 1270, 1272, 1274, 1276, 1278, 1280, 1282, 1284, 1286, 1288, 1290, 1292, 1294, 1296, 1298]]
theorem wl_ok : ∀ t, t < 12 → ∀ k, k < cN t → lw_tbl[(wLl.getD t []).getD k 0]? = some (u_lay (cR t) (cT t) k) := by decide +kernel
theorem fb_ok : ∀ t, t < 12 → ∀ k, k < cN t → ftg (t + 1) k = 0 → parseFieldDescriptor (cT t k).2.2.1 = some .boolean → fbo (t + 1) k ≠ 0 := by decide +kernel
