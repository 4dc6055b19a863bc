/-! code as a list, and what it does -/
def AtL (Q : Nat → Nat × Nat → Prop) : Nat → List (Nat × Nat) → Prop
  | _, [] => True
  | s, o :: r => Q s o ∧ AtL Q (s + 1) r
theorem AtL_app {Q : Nat → Nat × Nat → Prop} : ∀ {c d : List (Nat × Nat)} {s : Nat}, AtL Q s (c ++ d) ↔ AtL Q s c ∧ AtL Q (s + c.length) d
  | [], d, s => by
    show AtL Q s d ↔ True ∧ AtL Q (s + 0) d
    rw [Nat.add_zero, true_and]
  | o :: r, d, s => by
    show (Q s o ∧ AtL Q (s + 1) (r ++ d)) ↔ (Q s o ∧ AtL Q (s + 1) r) ∧ AtL Q (s + (r.length + 1)) d
    rw [AtL_app, show s + (r.length + 1) = s + 1 + r.length by omega, and_assoc]
theorem AtL_mono {Q Q' : Nat → Nat × Nat → Prop} : ∀ {c : List (Nat × Nat)} {s : Nat}, (∀ k o, s ≤ k → k < s + c.length → Q k o → Q' k o) → AtL Q s c → AtL Q' s c
  | [], _, _, _ => trivial
  | o :: r, s, h, ⟨h1, h2⟩ => ⟨h s o (Nat.le_refl _) (by simp only [List.length_cons]; omega) h1, AtL_mono (fun k o' a b => h k o' (by omega) (by simp only [List.length_cons]; omega)) h2⟩
theorem AtL_ex {Q : Nat → Nat × Nat → Prop} : ∀ {c : List (Nat × Nat)} {s k : Nat}, AtL Q s c → s ≤ k → k < s + c.length → ∃ o, Q k o
  | [], s, k, _, h1, h2 => by simp only [List.length_nil] at h2; omega
  | o :: r, s, k, ⟨h1, h2⟩, h3, h4 => by
    by_cases e : k = s
    · subst e; exact ⟨o, h1⟩
    · exact AtL_ex h2 (by omega) (by simp only [List.length_cons] at h4; omega)
theorem AtL_and {Q Q' : Nat → Nat × Nat → Prop} : ∀ {c : List (Nat × Nat)} {s : Nat}, AtL Q s c → AtL Q' s c → AtL (fun k o => Q k o ∧ Q' k o) s c
  | [], _, _, _ => trivial
  | _ :: _, _, ⟨h1, h2⟩, ⟨g1, g2⟩ => ⟨⟨h1, g1⟩, AtL_and h2 g2⟩
section
variable {od : Nat → Nat × Nat} {fc : Nat → Int32} {n k e : Nat} {st : List Int32}
theorem lev_num {v : Nat} (h : k < e) (h2 : st.length < 64) (ho : od k = (0, v)) : lev od fc (n + 1) k e st = lev od fc n (k + 1) e (nI v :: st) := by
  have e1 : (od k).1 = 0 := by rw [ho]
  have e2 : (od k).2 = v := by rw [ho]
  simp only [lev]
  rw [if_neg (by omega), if_neg (by omega), if_pos e1, e2]
theorem lev_let {v : Nat} (h : k < e) (h2 : st.length < 64) (ho : od k = (1, v)) : lev od fc (n + 1) k e st = lev od fc n (k + 1) e (fc v :: st) := by
  have e1 : (od k).1 = 1 := by rw [ho]
  have e2 : (od k).2 = v := by rw [ho]
  simp only [lev]
  rw [if_neg (by omega), if_neg (by omega), if_neg (by omega), if_pos e1, e2]
theorem lev_not {x : Int32} (h : k < e) (h2 : st.length < 63) (ho : (od k).1 = 10) : lev od fc (n + 1) k e (x :: st) = lev od fc n (k + 1) e ((1 - x) :: st) := by
  simp only [lev]
  rw [if_neg (by omega), if_neg (by simp only [List.length_cons]; omega), if_neg (by omega), if_neg (by omega), if_pos ho]
theorem lev_bin {x y : Int32} {op : Nat} (h : k < e) (h2 : st.length < 62) (ho : (od k).1 = op) (h1 : 2 ≤ op) (h3 : op ≤ 9) : lev od fc (n + 1) k e (y :: x :: st) = if (op = 5 ∨ op = 6) ∧ y = 0 then some none else lev od fc n (k + 1) e (lbin op x y :: st) := by
  simp only [lev]
  rw [if_neg (by omega), if_neg (by simp only [List.length_cons]; omega), if_neg (by omega), if_neg (by omega), if_neg (by omega), if_neg (by omega), if_neg (by omega), ho]
theorem lev_jn {x : Int32} {t : Nat} (h : k < e) (h2 : st.length < 63) (ho : od k = (11, t)) : lev od fc (n + 1) k e (x :: st) = if x = 0 then lev od fc n t e (x :: st) else if x = 1 then lev od fc n (k + 1) e st else none := by
  have e1 : (od k).1 = 11 := by rw [ho]
  have e2 : (od k).2 = t := by rw [ho]
  simp only [lev]
  rw [if_neg (by omega), if_neg (by simp only [List.length_cons]; omega), if_neg (by omega), if_neg (by omega), if_neg (by omega), if_pos e1, e2]
theorem lev_jy {x : Int32} {t : Nat} (h : k < e) (h2 : st.length < 63) (ho : od k = (12, t)) : lev od fc (n + 1) k e (x :: st) = if x = 1 then lev od fc n t e (x :: st) else if x = 0 then lev od fc n (k + 1) e st else none := by
  have e1 : (od k).1 = 12 := by rw [ho]
  have e2 : (od k).2 = t := by rw [ho]
  simp only [lev]
  rw [if_neg (by omega), if_neg (by simp only [List.length_cons]; omega), if_neg (by omega), if_neg (by omega), if_neg (by omega), if_neg (by omega), if_pos e1, e2]
end
def smE (D s : Nat) (c : List (Nat × Nat)) : Prop := ∀ od : Nat → Nat × Nat, AtL (fun k o => od k = o) s c → ∀ (fc : Nat → Int32) (n e : Nat) (st : List Int32), s + c.length ≤ e → st.length + D ≤ 64 → lev od fc (n + c.length) s e st = some none ∨ ∃ v m, n ≤ m ∧ lev od fc (n + c.length) s e st = lev od fc m (s + c.length) e (v :: st)
def smC (D s : Nat) (c : List (Nat × Nat)) : Prop := ∀ od : Nat → Nat × Nat, AtL (fun k o => od k = o) s c → ∀ (fc : Nat → Int32) (n e : Nat) (st : List Int32), s + c.length ≤ e → st.length + D ≤ 64 → lev od fc (n + c.length) s e st = some none ∨ ∃ v m, (v = 0 ∨ v = 1) ∧ n ≤ m ∧ lev od fc (n + c.length) s e st = lev od fc m (s + c.length) e (v :: st)
theorem smE_up {D D' s : Nat} {c : List (Nat × Nat)} (h : smE D s c) (hD : D ≤ D') : smE D' s c := fun od ha fc n e st he hd => h od ha fc n e st he (by omega)
theorem smC_up {D D' s : Nat} {c : List (Nat × Nat)} (h : smC D s c) (hD : D ≤ D') : smC D' s c := fun od ha fc n e st he hd => h od ha fc n e st he (by omega)
theorem smE_num {D s v : Nat} (hD : 1 ≤ D) : smE D s [(0, v)] := by
  intro od ha fc n e st he hd
  have he : s + 1 ≤ e := he
  exact Or.inr ⟨nI v, n, Nat.le_refl _, lev_num (by omega) (by omega) ha.1⟩
theorem smE_let {D s v : Nat} (hD : 1 ≤ D) : smE D s [(1, v)] := by
  intro od ha fc n e st he hd
  have he : s + 1 ≤ e := he
  exact Or.inr ⟨fc v, n, Nat.le_refl _, lev_let (by omega) (by omega) ha.1⟩
theorem sm_two {D D1 D2 s : Nat} {c d : List (Nat × Nat)} (h1 : smE D1 s c) (h2 : smE D2 (s + c.length) d) (hD1 : D1 ≤ D) (hD2 : D2 + 1 ≤ D) {od : Nat → Nat × Nat} (a1 : AtL (fun k o => od k = o) s c) (a2 : AtL (fun k o => od k = o) (s + c.length) d) (fc : Nat → Int32) (n e : Nat) (st : List Int32) (he : s + c.length + d.length ≤ e) (hd : st.length + D ≤ 64) : lev od fc (n + (c.length + d.length)) s e st = some none ∨ ∃ x y m, n ≤ m ∧ lev od fc (n + (c.length + d.length)) s e st = lev od fc m (s + c.length + d.length) e (y :: x :: st) := by
  rw [show n + (c.length + d.length) = n + d.length + c.length by omega]
  rcases h1 od a1 fc (n + d.length) e st (by omega) (by omega) with q | ⟨v, m, m1, q⟩
  · exact Or.inl q
  · obtain ⟨m', rfl⟩ : ∃ m', m = m' + d.length := ⟨m - d.length, by omega⟩
    rcases h2 od a2 fc m' e (v :: st) (by omega) (by simp only [List.length_cons]; omega) with q2 | ⟨v2, m2, m3, q2⟩
    · left; rw [q, q2]
    · exact Or.inr ⟨v, v2, m2, by omega, by rw [q, q2]⟩
theorem len3 (c d : List (Nat × Nat)) (o : Nat × Nat) : (c ++ d ++ [o]).length = c.length + d.length + 1 := by rw [List.length_append, List.length_append]; rfl
theorem smE_bin {D D1 D2 s op : Nat} {c d : List (Nat × Nat)} (h1 : smE D1 s c) (h2 : smE D2 (s + c.length) d) (hD1 : D1 ≤ D) (hD2 : D2 + 1 ≤ D) (hD : 3 ≤ D) (o1 : 2 ≤ op) (o2 : op ≤ 9) : smE D s (c ++ d ++ [(op, 0)]) := by
  intro od ha fc n e st he hd
  rw [len3] at he ⊢
  obtain ⟨ha, a3⟩ := AtL_app.mp ha
  obtain ⟨a1, a2⟩ := AtL_app.mp ha
  rw [List.length_append] at a3
  have a3 : od (s + (c.length + d.length)) = (op, 0) := a3.1
  rw [show n + (c.length + d.length + 1) = n + 1 + (c.length + d.length) by omega]
  rcases sm_two h1 h2 hD1 hD2 a1 a2 fc (n + 1) e st (by omega) hd with q | ⟨x, y, m, m1, q⟩
  · exact Or.inl q
  · obtain ⟨m', rfl⟩ : ∃ m', m = m' + 1 := ⟨m - 1, by omega⟩
    rw [q, lev_bin (op := op) (by omega) (by omega) (by rw [show s + c.length + d.length = s + (c.length + d.length) by omega, a3]) o1 o2]
    by_cases cz : (op = 5 ∨ op = 6) ∧ y = 0
    · rw [if_pos cz]; exact Or.inl rfl
    · rw [if_neg cz]
      exact Or.inr ⟨lbin op x y, m', by omega, by rw [show s + c.length + d.length + 1 = s + (c.length + d.length + 1) by omega]⟩
theorem lbin_b {op : Nat} (h : op = 7 ∨ op = 8 ∨ op = 9) (x y : Int32) : lbin op x y = 0 ∨ lbin op x y = 1 := by
  unfold lbin
  rcases h with rfl | rfl | rfl
  · by_cases c : x < y
    · right; simp [c]
    · left; simp [c]
  · by_cases c : y < x
    · right; simp [c]
    · left; simp [c]
  · by_cases c : x = y
    · right; simp [c]
    · left; simp [c]
theorem smC_cmp {D D1 D2 s op : Nat} {c d : List (Nat × Nat)} (h1 : smE D1 s c) (h2 : smE D2 (s + c.length) d) (hD1 : D1 ≤ D) (hD2 : D2 + 1 ≤ D) (hD : 3 ≤ D) (ho : op = 7 ∨ op = 8 ∨ op = 9) : smC D s (c ++ d ++ [(op, 0)]) := by
  intro od ha fc n e st he hd
  rw [len3] at he ⊢
  obtain ⟨ha, a3⟩ := AtL_app.mp ha
  obtain ⟨a1, a2⟩ := AtL_app.mp ha
  rw [List.length_append] at a3
  have a3 : od (s + (c.length + d.length)) = (op, 0) := a3.1
  rw [show n + (c.length + d.length + 1) = n + 1 + (c.length + d.length) by omega]
  rcases sm_two h1 h2 hD1 hD2 a1 a2 fc (n + 1) e st (by omega) hd with q | ⟨x, y, m, m1, q⟩
  · exact Or.inl q
  · obtain ⟨m', rfl⟩ : ∃ m', m = m' + 1 := ⟨m - 1, by omega⟩
    rw [q, lev_bin (op := op) (by omega) (by omega) (by rw [show s + c.length + d.length = s + (c.length + d.length) by omega, a3]) (by omega) (by omega), if_neg (by omega)]
    exact Or.inr ⟨lbin op x y, m', lbin_b ho x y, by omega, by rw [show s + c.length + d.length + 1 = s + (c.length + d.length + 1) by omega]⟩
theorem smC_not {D s : Nat} {c : List (Nat × Nat)} (h : smC D s c) (hD : 2 ≤ D) : smC D s (c ++ [(10, 0)]) := by
  intro od ha fc n e st he hd
  rw [List.length_append] at he ⊢
  obtain ⟨a1, a2⟩ := AtL_app.mp ha
  have a2 : od (s + c.length) = (10, 0) := a2.1
  have he : s + (c.length + 1) ≤ e := he
  show lev od fc (n + (c.length + 1)) s e st = _ ∨ ∃ v m, (v = 0 ∨ v = 1) ∧ n ≤ m ∧ lev od fc (n + (c.length + 1)) s e st = lev od fc m (s + (c.length + 1)) e (v :: st)
  rw [show n + (c.length + 1) = n + 1 + c.length by omega]
  rcases h od a1 fc (n + 1) e st (by omega) hd with q | ⟨v, m, v1, m1, q⟩
  · exact Or.inl q
  · obtain ⟨m', rfl⟩ : ∃ m', m = m' + 1 := ⟨m - 1, by omega⟩
    rw [q, lev_not (by omega) (by omega) (by rw [a2])]
    refine Or.inr ⟨1 - v, m', ?_, by omega, by rw [show s + c.length + 1 = s + (c.length + 1) by omega]⟩
    rcases v1 with rfl | rfl
    · exact Or.inr (by decide)
    · exact Or.inl (by decide)
theorem smC_jmp {D s op : Nat} {c d : List (Nat × Nat)} (h1 : smC D s c) (h2 : smC D (s + c.length + 1) d) (hD : 2 ≤ D) (ho : op = 11 ∨ op = 12) : smC D s (c ++ (op, s + c.length + 1 + d.length) :: d) := by
  intro od ha fc n e st he hd
  have hl : (c ++ (op, s + c.length + 1 + d.length) :: d).length = c.length + 1 + d.length := by rw [List.length_append, List.length_cons]; omega
  rw [hl] at he ⊢
  obtain ⟨a1, a2, a3⟩ := AtL_app.mp ha
  have a2 : od (s + c.length) = (op, s + c.length + 1 + d.length) := a2
  rw [show n + (c.length + 1 + d.length) = n + d.length + 1 + c.length by omega]
  rcases h1 od a1 fc (n + d.length + 1) e st (by omega) hd with q | ⟨v, m, v1, m1, q⟩
  · exact Or.inl q
  · obtain ⟨m', rfl⟩ : ∃ m', m = m' + 1 := ⟨m - 1, by omega⟩
    obtain ⟨m2, rfl⟩ : ∃ m2, m' = m2 + d.length := ⟨m' - d.length, by omega⟩
    have hs : s + (c.length + 1 + d.length) = s + c.length + 1 + d.length := by omega
    have run := h2 od a3 fc m2 e st (by omega) hd
    rw [q, hs]
    rcases ho with rfl | rfl
    · rw [lev_jn (by omega) (by omega) a2]
      rcases v1 with rfl | rfl
      · rw [if_pos rfl]
        exact Or.inr ⟨0, m2 + d.length, Or.inl rfl, by omega, rfl⟩
      · rw [if_neg (by decide), if_pos rfl]
        rcases run with r | ⟨x, m3, x1, x2, r⟩
        · exact Or.inl r
        · exact Or.inr ⟨x, m3, x1, by omega, r⟩
    · rw [lev_jy (by omega) (by omega) a2]
      rcases v1 with rfl | rfl
      · rw [if_neg (by decide), if_pos rfl]
        rcases run with r | ⟨x, m3, x1, x2, r⟩
        · exact Or.inl r
        · exact Or.inr ⟨x, m3, x1, by omega, r⟩
      · rw [if_pos rfl]
        exact Or.inr ⟨1, m2 + d.length, Or.inr rfl, by omega, rfl⟩
theorem lev_end {od : Nat → Nat × Nat} {fc : Nat → Int32} {n k e : Nat} {st : List Int32} (h : e ≤ k) (hn : 1 ≤ n) : lev od fc n k e st = some (some st) := by
  obtain ⟨m, rfl⟩ : ∃ m, n = m + 1 := ⟨n - 1, by omega⟩
  simp only [lev]
  rw [if_pos h]
theorem wfE_of {D s : Nat} {c : List (Nat × Nat)} (h : smE D s c) (hD : D ≤ 64) {od : Nat → Nat × Nat} (ha : AtL (fun k o => od k = o) s c) : wfE od s (s + c.length) := by
  intro fc
  rw [show s + c.length - s + 1 = 1 + c.length by omega]
  rcases h od ha fc 1 (s + c.length) [] (Nat.le_refl _) (by simp only [List.length_nil]; omega) with q | ⟨v, m, m1, q⟩
  · exact Or.inl q
  · exact Or.inr ⟨v, by rw [q, lev_end (Nat.le_refl _) m1]⟩
theorem wfC_of {D s : Nat} {c : List (Nat × Nat)} (h : smC D s c) (hD : D ≤ 64) {od : Nat → Nat × Nat} (ha : AtL (fun k o => od k = o) s c) : wfC od s (s + c.length) := by
  intro fc
  rw [show s + c.length - s + 1 = 1 + c.length by omega]
  rcases h od ha fc 1 (s + c.length) [] (Nat.le_refl _) (by simp only [List.length_nil]; omega) with q | ⟨v, m, v1, m1, q⟩
  · exact Or.inl q
  · exact Or.inr ⟨v, v1, by rw [q, lev_end (Nat.le_refl _) m1]⟩
/-- the reference's form of a step -/
def enc (o : Nat × Nat) : Int32 := nI (1048576 * o.1 + o.2)
def opX (k : Nat) (o : Nat × Nat) (s v : Int32) : Prop := opOk k s v (enc o) o
theorem od_enc {cd : Nat → Int32} {k : Nat} {o : Nat × Nat} (h : cd k = enc o) (h1 : o.1 ≤ 14) (h2 : o.2 < 1048576) : odOf cd k = o := by
  unfold odOf
  have e : (cd k).toNatClampNeg = 1048576 * o.1 + o.2 := by rw [h]; exact nI_clamp (by omega)
  rw [e]
  have e1 : (1048576 * o.1 + o.2) / 1048576 = o.1 := by omega
  have e2 : (1048576 * o.1 + o.2) % 1048576 = o.2 := by omega
  rw [e1, e2]
theorem opX_le {k : Nat} {o : Nat × Nat} {s v : Int32} (h : opX k o s v) : o.1 ≤ 14 ∧ o.2 < 1048576 := by
  obtain ⟨_, h2, h3⟩ := h
  exact ⟨by omega, h2⟩
