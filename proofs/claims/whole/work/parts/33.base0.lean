/-! NUMBERS, MEMORY, LOOPS -/
theorem rd_nI {μ : Mem} {a len i : Nat} (h : i < len) (hl : len < 2 ^ 31) : rd μ a len (nI i) = some (μ a i) := by
  unfold rd
  rw [if_neg (nI_in h hl), nI_clamp (by omega)]
theorem wr_nI {μ : Mem} {a len i : Nat} {v : Int32} (h : i < len) (hl : len < 2 ^ 31) : wr μ a len (nI i) v = some (mset μ a i v) := by
  unfold wr
  rw [if_neg (nI_in h hl), nI_clamp (by omega)]
theorem mset_ne {μ : Mem} {a b i : Nat} {v : Int32} (h : b ≠ a) : mset μ a i v b = μ b := by unfold mset; rw [if_neg h]
theorem mset_eq {μ : Mem} {a i : Nat} {v : Int32} : mset μ a i v a = upd (μ a) i v := by unfold mset; rw [if_pos rfl]
theorem mset_at {μ : Mem} {a i : Nat} {v : Int32} : mset μ a i v a i = v := by rw [mset_eq, pk_us]
theorem mset_atn {μ : Mem} {a i j : Nat} {v : Int32} (h : j ≠ i) : mset μ a i v a j = μ a j := by rw [mset_eq, pk_un h]
theorem mset_self {μ : Mem} {a i : Nat} : mset μ a i (μ a i) = μ := by
  funext b
  by_cases hb : b = a
  · subst hb
    rw [mset_eq]
    funext j
    by_cases hj : j = i
    · rw [hj, pk_us]
    · rw [pk_un hj]
  · rw [mset_ne hb]
theorem mset_mset {μ : Mem} {a i : Nat} {v w : Int32} : mset (mset μ a i v) a i w = mset μ a i w := by
  funext b
  by_cases hb : b = a
  · subst hb
    rw [mset_eq, mset_eq, mset_eq]
    funext j
    by_cases hj : j = i
    · rw [hj, pk_us, pk_us]
    · rw [pk_un hj, pk_un hj, pk_un hj]
  · rw [mset_ne hb, mset_ne hb, mset_ne hb]
