theorem miter_l {S E : Type} {f : S → Option (S ⊕ E)} {q q' : S} {F : Nat} {r : Option E} (h : f q = some (.inl q')) (h2 : miter f F q' = r) : miter f (F + 1) q = r := by
  simp only [miter, h]; exact h2
theorem miter_r {S E : Type} {f : S → Option (S ⊕ E)} {q : S} {e : E} {F : Nat} (h : f q = some (.inr e)) : miter f (F + 1) q = some e := by
  simp only [miter, h]
def binOk (op : Nat) (s : Int32) : Prop := (op = 2 ∧ s = 43) ∨ (op = 3 ∧ s = 45) ∨ (op = 4 ∧ s = 42) ∨ (op = 5 ∧ s = 47) ∨ (op = 6 ∧ s = 37) ∨ (op = 7 ∧ s = 60) ∨ (op = 8 ∧ s = 62) ∨ (op = 9 ∧ s = 61)
theorem x_reckon {μ : Mm} {s x y : Int32} {op : Nat} (h : binOk op s) (hz : ¬ ((op = 5 ∨ op = 6) ∧ y = 0)) : vs_Law_reckon μ s x y = some (lbin op x y, μ) := by
  unfold vs_Law_reckon lbin
  rcases h with ⟨rfl, rfl⟩ | ⟨rfl, rfl⟩ | ⟨rfl, rfl⟩ | ⟨rfl, rfl⟩ | ⟨rfl, rfl⟩ | ⟨rfl, rfl⟩ | ⟨rfl, rfl⟩ | ⟨rfl, rfl⟩
  · rfl
  · rfl
  · rfl
  · have hy : ¬ (y = 0) := fun e => hz ⟨Or.inl rfl, e⟩
    have : mdv y (some (x / y, μ)) = some (x / y, μ) := by unfold mdv; rw [if_neg hy]
    simp only [if_neg hy, this]; rfl
  · have hy : ¬ (y = 0) := fun e => hz ⟨Or.inr rfl, e⟩
    have : mdv y (some (x - x / y * y, μ)) = some (x - x / y * y, μ) := by unfold mdv; rw [if_neg hy]
    simp only [if_neg hy, this]; rfl
  · show (if y ≤ x then some (0, μ) else some (1, μ)) = some ((if x < y then 1 else 0), μ)
    by_cases c : x < y
    · rw [if_pos c, if_neg (i32_nle.mpr c)]
    · rw [if_neg c, if_pos (Classical.not_not.mp (fun q => c (i32_nle.mp q)))]
  · show (if x ≤ y then some (0, μ) else some (1, μ)) = some ((if y < x then 1 else 0), μ)
    by_cases c : y < x
    · rw [if_pos c, if_neg (i32_nle.mpr c)]
    · rw [if_neg c, if_pos (Classical.not_not.mp (fun q => c (i32_nle.mp q)))]
  · show (if x = y then some (1, μ) else some (0, μ)) = some ((if x = y then 1 else 0), μ)
    by_cases c : x = y
    · rw [if_pos c, if_pos c]
    · rw [if_neg c, if_neg c]
theorem x_reckon0 {μ : Mm} {s x y : Int32} {op : Nat} (h : binOk op s) (hz : (op = 5 ∨ op = 6) ∧ y = 0) : vs_Law_reckon μ s x y = some (0, mset μ 10 10 1) := by
  unfold vs_Law_reckon
  obtain ⟨h1, rfl⟩ := hz
  rcases h with ⟨rfl, rfl⟩ | ⟨rfl, rfl⟩ | ⟨rfl, rfl⟩ | ⟨rfl, rfl⟩ | ⟨rfl, rfl⟩ | ⟨rfl, rfl⟩ | ⟨rfl, rfl⟩ | ⟨rfl, rfl⟩ <;> first | omega | rfl
theorem binOk_s {op : Nat} {s : Int32} (h : binOk op s) : s ≠ 0 ∧ s ≠ 1 ∧ s ≠ 2 ∧ s ≠ 3 ∧ s ≠ 4 := by
  rcases h with ⟨-, rfl⟩ | ⟨-, rfl⟩ | ⟨-, rfl⟩ | ⟨-, rfl⟩ | ⟨-, rfl⟩ | ⟨-, rfl⟩ | ⟨-, rfl⟩ | ⟨-, rfl⟩ <;> decide
theorem binOk_o {op : Nat} {s : Int32} (h : binOk op s) : op ≠ 0 ∧ op ≠ 1 ∧ op ≠ 10 ∧ op ≠ 11 ∧ op ≠ 12 := by
  rcases h with ⟨rfl, -⟩ | ⟨rfl, -⟩ | ⟨rfl, -⟩ | ⟨rfl, -⟩ | ⟨rfl, -⟩ | ⟨rfl, -⟩ | ⟨rfl, -⟩ | ⟨rfl, -⟩ <;> decide
theorem lch_lt (w : Nat) : lch w < 128 := by unfold lch; repeat' split <;> try omega
theorem x_jump {μ : Mm} {st : List Int32} {x : Int32} {k w : Nat} (h : SX μ (x :: st)) (hk : k < 200) (hv : μ 64 k = nI w) (z : Int32) (hz : z = 0 ∨ z = 1) (hx : x = 0 ∨ x = 1) : ∃ μ', FX μ μ' ∧ ((x = z ∧ SX μ' (x :: st) ∧ vs_Law_jump μ (nI k) z = some (nI w, μ')) ∨ (x ≠ z ∧ SX μ' st ∧ vs_Law_jump μ (nI k) z = some (nI k + 1, μ'))) := by
  unfold vs_Law_jump
  obtain ⟨μ1, p1, p2, p3⟩ := x_pop h
  have hl : st.length < 64 := h.2.2.1
  obtain ⟨μ2, q1, q2, q3⟩ := x_push p2 hl x
  have hv2 : μ2 64 k = nI w := by rw [q3.1 64 (by decide) (by decide), p3.1 64 (by decide) (by decide)]; exact hv
  rw [p1]
  simp only [mbm]
  rcases hz with rfl | rfl
  · rcases hx with rfl | rfl
    · exact ⟨μ2, FX_t p3 q3, Or.inl ⟨rfl, q2, by rw [if_pos rfl, if_pos rfl, q1, mbv_s, mrd_nI hk (by decide), hv2]⟩⟩
    · exact ⟨μ1, p3, Or.inr ⟨by decide, p2, by rw [if_neg (by decide), if_neg (by decide)]⟩⟩
  · rcases hx with rfl | rfl
    · exact ⟨μ1, p3, Or.inr ⟨by decide, p2, by rw [if_pos rfl, if_neg (by decide)]⟩⟩
    · exact ⟨μ2, FX_t p3 q3, Or.inl ⟨rfl, q2, by rw [if_neg (by decide), if_pos rfl, q1, mbv_s, mrd_nI hk (by decide), hv2]⟩⟩
