/-! THE OWN JUDGEMENT: V (over pc, locals, stack, heap picture), a wrapper of W. Cells that the law makes lie at base + k. -/
abbrev Mem : Type := Nat → Nat → Int32
abbrev Hm : Type := Nat → Option va_E
/-- launch, base, slots and classes of the objects, array classes (0 int, 1 byte, 2 long, 3 Land), the literals' cells and their bytes -/
abbrev Gl : Type := Launch × Nat × va_G × (Nat → ClassId) × (Nat → Nat) × (Nat → Nat)
/-- own class, bytes, locals, depth, cells, slots, handlers -/
abbrev Fi : Type := String × ByteArray × Nat × Nat × Nat × Nat × List (Nat × Nat × Nat × Nat)
abbrev Cx : Type := Room × Program × Env × State × MethodId × Array Value × List Frame × Method × Code × (State → Prop)
def gw : List Cond := lw_tbl.filter goodWord
theorem gw_good : GoodIn gw gw := fun w h => ⟨h, good_of_word (List.mem_filter.mp h).2⟩
theorem gw_in {i : Nat} {w : Cond} (h : lw_tbl[i]? = some w) (g : goodWord w = true) : w ∈ gw := List.mem_filter.mpr ⟨List.mem_of_getElem? h, g⟩
def gA (G : Gl) : Nat → Prop := fun q => G.2.1 ≤ q
def gD (G : Gl) : va_G := G.2.2.1
def gT (G : Gl) : List (ClassId × FieldType) := [(G.2.2.2.1 0, .int), (G.2.2.2.1 1, .byte), (G.2.2.2.1 2, .long), (G.2.2.2.1 3, .object "LaceBonds$Land")]
def rf (G : Gl) (a : Nat) : Value := .ref (G.2.1 + a)
def b2i (b : Bool) : Int32 := if b then 1 else 0
def i2b (x : Int32) : Bool := x != 0
def Hp (G : Gl) (h : Hm) (n : Nat) (H : Heap) : Prop := H.size = G.2.1 + n ∧ ∀ k e, h k = some e → k < n ∧ va_at (gD G) classes (G.2.1 + k, e) H
/-- what else is known of the state: nest links, literals, the statics of a throw, what isn't castable -/
def Kx (nM : List (String × Nat × MethodName × String)) (nF : List (String × Nat × String × String × String × String)) (sT : List (String × Nat × String × Nat)) (nC cC : List (String × String)) (nD : List MethodName) (N : Nat) (len : List Nat) (byt : List (List Int32)) (G : Gl) (U : State) : Prop :=
  (∀ q ∈ nM, va_Nw (.methodLinkNest q.1 q.2.1 q.2.2.1 q.2.2.2) U) ∧ (∀ q ∈ nF, va_Nw (.fieldLinkNest q.1 q.2.1 q.2.2.1 q.2.2.2.1 q.2.2.2.2.1 q.2.2.2.2.2) U) ∧
  (∀ q ∈ sT, vk_R q.1 q.2.1 q.2.2.1 (G.2.2.2.2.1 q.2.2.2) U) ∧ (∀ q ∈ nC, va_Nc q.1 q.2 U) ∧ (∀ q ∈ cC, va_Nw (.castable q.1 q.2) U) ∧ (∀ q ∈ nD, va_Nw (.declares q) U) ∧
  vx_Zq Bundle.tN "UNASSIGNED_STACK" Bundle.steD (gA G) U U.heap ∧ vx_Zq Bundle.tN "SUPPRESSED_SENTINEL" Bundle.listD (gA G) U U.heap ∧ (va_Z "java/lang/String" "COMPACT_STRINGS" "Z" (.int 1) (gA G) U U.heap ∧ va_Zq "jdk/internal/util/Preconditions" "SIOOBE_FORMATTER" "Ljava/util/function/BiFunction;" (gA G) U U.heap ∧ va_AO "LaceBonds$Land" U) ∧
  ∀ i : Nat, i < N → va_O "java/lang/String" (G.2.2.2.2.1 i) (gA G) U U.heap ∧ va_OF "java/lang/String" "coder" "B" (.int 0) (G.2.2.2.2.1 i) (gA G) U U.heap ∧ va_OF "java/lang/String" "value" "[B" (.ref (G.2.2.2.2.2 i)) (G.2.2.2.2.1 i) (gA G) U U.heap ∧ va_T .byte (G.2.2.2.2.2 i) (len.getD i 0) (fun j => .int ((byt.getD i []).getD j 0)) (gA G) U U.heap
theorem Kx.warm {nM : List (String × Nat × MethodName × String)} {nF : List (String × Nat × String × String × String × String)} {sT : List (String × Nat × String × Nat)} {nC cC : List (String × String)} {nD : List MethodName} {N : Nat} {len : List Nat} {byt : List (List Int32)} {G : Gl} {s U : State} (h : Kx nM nF sT nC cC nD N len byt G s) (hW : s.WarmedH U.vm) (hk : ∀ a : Nat, a < s.heap.size → ¬ gA G a → U.heap[a]? = s.heap[a]?) : Kx nM nF sT nC cC nD N len byt G U := by
  obtain ⟨h1, h2, h3, h4, h5, h6, h7, h8, h9, h10⟩ := h
  refine ⟨fun q hq => (h1 q hq).warmM hW, fun q hq => (h2 q hq).warmF hW, fun q hq => (h3 q hq).warm hW, fun q hq => (h4 q hq).moved hW.alike, fun q hq => (h5 q hq).warmC hW, fun q hq => (h6 q hq).warmD hW, (h7.moved hW.alike).kept hk, (h8.moved hW.alike).kept hk, ⟨(h9.1.moved hW.alike).kept hk, (h9.2.1.moved hW.alike).kept hk, h9.2.2.moved hW.alike⟩, fun i hi => ?_⟩
  obtain ⟨a1, a2, a3, a4⟩ := h10 i hi
  exact ⟨(a1.moved hW.alike).kept hk, (a2.moved hW.alike).kept hk, (a3.moved hW.alike).kept hk, (a4.moved hW.alike).kept hk⟩
