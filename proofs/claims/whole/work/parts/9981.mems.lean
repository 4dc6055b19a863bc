/-! reading a law: the two memories -/
def rM (ν : Mm) (p f o k w nb : Int32) (cd wa : Nat → Int32) : Mm := fun c => if c = 0 then (fun i => if i = 39 then p else if i = 41 then f else if i = 42 then o else if i = 43 then k else if i = 44 then w else if i = 46 then nb else ν 0 i) else if c = 31 then cd else if c = 32 then wa else ν c
def xM (μ : Mm) (p f k : Int32) (st va : Nat → Int32) : Mm := fun c => if c = 77 then (fun i => if i = 3 then p else if i = 4 then f else μ 77 i) else if c = 11 then (fun i => if i = 7 then k else μ 11 i) else if c = 70 then st else if c = 71 then va else μ c
section
variable {ν μ : Mm} {p f o k w nb : Int32} {cd wa st va : Nat → Int32}
theorem rM_39 : rM ν p f o k w nb cd wa 0 39 = p := rfl
theorem rMs39 {x : Int32} : mset (rM ν p f o k w nb cd wa) 0 39 x = rM ν x f o k w nb cd wa := by
  funext c i
  by_cases e : c = 0
  · subst e
    by_cases e2 : i = 39
    · subst e2; rw [mset_s]; rfl
    · rw [mset_n e2]; simp [rM, e2]
  · rw [mset_o e]; simp [rM, e]
theorem rM_41 : rM ν p f o k w nb cd wa 0 41 = f := rfl
theorem rMs41 {x : Int32} : mset (rM ν p f o k w nb cd wa) 0 41 x = rM ν p x o k w nb cd wa := by
  funext c i
  by_cases e : c = 0
  · subst e
    by_cases e2 : i = 41
    · subst e2; rw [mset_s]; rfl
    · rw [mset_n e2]; simp [rM, e2]
  · rw [mset_o e]; simp [rM, e]
theorem rM_42 : rM ν p f o k w nb cd wa 0 42 = o := rfl
theorem rMs42 {x : Int32} : mset (rM ν p f o k w nb cd wa) 0 42 x = rM ν p f x k w nb cd wa := by
  funext c i
  by_cases e : c = 0
  · subst e
    by_cases e2 : i = 42
    · subst e2; rw [mset_s]; rfl
    · rw [mset_n e2]; simp [rM, e2]
  · rw [mset_o e]; simp [rM, e]
theorem rM_43 : rM ν p f o k w nb cd wa 0 43 = k := rfl
theorem rMs43 {x : Int32} : mset (rM ν p f o k w nb cd wa) 0 43 x = rM ν p f o x w nb cd wa := by
  funext c i
  by_cases e : c = 0
  · subst e
    by_cases e2 : i = 43
    · subst e2; rw [mset_s]; rfl
    · rw [mset_n e2]; simp [rM, e2]
  · rw [mset_o e]; simp [rM, e]
theorem rM_44 : rM ν p f o k w nb cd wa 0 44 = w := rfl
theorem rMs44 {x : Int32} : mset (rM ν p f o k w nb cd wa) 0 44 x = rM ν p f o k x nb cd wa := by
  funext c i
  by_cases e : c = 0
  · subst e
    by_cases e2 : i = 44
    · subst e2; rw [mset_s]; rfl
    · rw [mset_n e2]; simp [rM, e2]
  · rw [mset_o e]; simp [rM, e]
theorem rM_46 : rM ν p f o k w nb cd wa 0 46 = nb := rfl
theorem rMs46 {x : Int32} : mset (rM ν p f o k w nb cd wa) 0 46 x = rM ν p f o k w x cd wa := by
  funext c i
  by_cases e : c = 0
  · subst e
    by_cases e2 : i = 46
    · subst e2; rw [mset_s]; rfl
    · rw [mset_n e2]; simp [rM, e2]
  · rw [mset_o e]; simp [rM, e]
theorem rMs31 {j : Nat} {x : Int32} : mset (rM ν p f o k w nb cd wa) 31 j x = rM ν p f o k w nb (upd cd j x) wa := by
  funext c i
  by_cases e : c = 31
  · subst e
    by_cases e2 : i = j
    · subst e2; rw [mset_s]; exact (upd_s cd i x).symm
    · rw [mset_n e2]; exact (upd_n e2).symm
  · rw [mset_o e]; simp [rM, e]
theorem rMs32 {j : Nat} {x : Int32} : mset (rM ν p f o k w nb cd wa) 32 j x = rM ν p f o k w nb cd (upd wa j x) := by
  funext c i
  by_cases e : c = 32
  · subst e
    by_cases e2 : i = j
    · subst e2; rw [mset_s]; exact (upd_s wa i x).symm
    · rw [mset_n e2]; exact (upd_n e2).symm
  · rw [mset_o e]; simp [rM, e]
theorem xM_3 : xM μ p f k st va 77 3 = p := rfl
theorem xM_4 : xM μ p f k st va 77 4 = f := rfl
theorem xM_7 : xM μ p f k st va 11 7 = k := rfl
theorem xMs3 {x : Int32} : mset (xM μ p f k st va) 77 3 x = xM μ x f k st va := by
  funext c i
  by_cases e : c = 77
  · subst e
    by_cases e2 : i = 3
    · subst e2; rw [mset_s]; rfl
    · rw [mset_n e2]; simp [xM, e2]
  · rw [mset_o e]; simp [xM, e]
theorem xMs4 {x : Int32} : mset (xM μ p f k st va) 77 4 x = xM μ p x k st va := by
  funext c i
  by_cases e : c = 77
  · subst e
    by_cases e2 : i = 4
    · subst e2; rw [mset_s]; rfl
    · rw [mset_n e2]; simp [xM, e2]
  · rw [mset_o e]; simp [xM, e]
theorem xMs7 {x : Int32} : mset (xM μ p f k st va) 11 7 x = xM μ p f x st va := by
  funext c i
  by_cases e : c = 11
  · subst e
    by_cases e2 : i = 7
    · subst e2; rw [mset_s]; rfl
    · rw [mset_n e2]; simp [xM, e2]
  · rw [mset_o e]; simp [xM, e]
theorem xMs70 {j : Nat} {x : Int32} : mset (xM μ p f k st va) 70 j x = xM μ p f k (upd st j x) va := by
  funext c i
  by_cases e : c = 70
  · subst e
    by_cases e2 : i = j
    · subst e2; rw [mset_s]; exact (upd_s st i x).symm
    · rw [mset_n e2]; exact (upd_n e2).symm
  · rw [mset_o e]; simp [xM, e]
theorem xMs71 {j : Nat} {x : Int32} : mset (xM μ p f k st va) 71 j x = xM μ p f k st (upd va j x) := by
  funext c i
  by_cases e : c = 71
  · subst e
    by_cases e2 : i = j
    · subst e2; rw [mset_s]; exact (upd_s va i x).symm
    · rw [mset_n e2]; exact (upd_n e2).symm
  · rw [mset_o e]; simp [xM, e]
end
/-- the text that both read -/
def txM (ν : Mm) (N : Nat) (sg : Nat → Int32) : Prop := ν 0 40 = nI N ∧ N ≤ 200 ∧ (∀ p, p < N → ν 30 p &&& 255 = sg p) ∧ ∀ p, N ≤ p → sg p = -1
def txX (μ : Mm) (N : Nat) (sg : Nat → Int32) : Prop := μ 77 1 = nI N ∧ N ≤ 200 ∧ (∀ p, p < N → μ 14 p = sg p) ∧ ∀ p, N ≤ p → sg p = -1
theorem flt (k : Nat) (p : Nat) (c : Int32) (hc : c = nI k) : (1000 * c) + nI p = nI (1000 * k + p) := by
  subst hc
  rw [show (1000 : Int32) = nI 1000 from rfl, pk_mul, nI_add]
theorem fltM (k : Nat) (p : Nat) (c : Int32) (hc : c = nI k) : ((-1000) * c) - nI p = -(nI (1000 * k + p)) := by
  rw [← flt k p c hc, Int32.neg_add, ← Int32.neg_mul]
section
variable {ν μ : Mm} {N : Nat} {sg : Nat → Int32} {f o k w nb : Int32} {cd wa st va : Nat → Int32}
theorem m_here (h : txM ν N sg) {p : Nat} (hp : p ≤ N) : md_here (rM ν (nI p) f o k w nb cd wa) = some (sg p) := by
  obtain ⟨h1, h2, h3, h4⟩ := h
  unfold md_here
  rw [show rM ν (nI p) f o k w nb cd wa 0 40 = nI N from h1, rM_39]
  by_cases c : p < N
  · rw [if_neg (nI_ge c (by omega)), mrd_nI (by omega) (by decide)]
    exact congrArg some (h3 p c)
  · rw [if_pos (nI_le (by omega) (by omega)), h4 p (by omega)]
theorem x_sign (h : txX μ N sg) {p : Nat} (hp : p ≤ N) : vs_LawReading_sign (xM μ (nI p) f k st va) = some (sg p) := by
  obtain ⟨h1, h2, h3, h4⟩ := h
  unfold vs_LawReading_sign
  rw [show xM μ (nI p) f k st va 77 1 = nI N from h1, xM_3]
  by_cases c : p < N
  · rw [if_neg (nI_ge c (by omega)), mrd_nI (by omega) (by decide)]
    exact congrArg some (h3 p c)
  · rw [if_pos (nI_le (by omega) (by omega)), h4 p (by omega)]
theorem sg_lt (h : txX μ N sg) {p : Nat} (hs : sg p ≠ -1) : p < N := by
  rcases Nat.lt_or_ge p N with c | c
  · exact c
  · exact absurd (h.2.2.2 p c) hs
theorem m_wrong {p a1 a2 : Int32} : md_wrong (rM ν p f o k w nb cd wa) a1 a2 = some (false, rM ν p (((-1000) * a1) - a2) o k w nb cd wa) := by
  unfold md_wrong
  rw [mst_s, rMs41]
theorem x_fail {p a1 : Int32} : vs_LawReading_fail (xM μ p f k st va) a1 = some (false, xM μ p ((1000 * a1) + p) k st va) := by
  unfold vs_LawReading_fail
  rw [mst_s, xM_3, xMs4]
theorem m_says {p a1 a2 : Int32} {s : Nat} (hs : s < 220) : md_says (rM ν p f o (nI s) w nb cd wa) a1 a2 = some (rM ν p f o (nI (s + 1)) w nb (upd cd s ((1048576 * a1) + a2)) wa) := by
  unfold md_says
  rw [rM_43, mwr_nI hs (by decide), rMs31, mst_s, rM_43, rMs43, nI_1]
theorem x_emit {p a1 a2 : Int32} {s : Nat} (hs : s < 200) : vs_Law_emit_sp (xM μ p f (nI s) st va) a1 a2 = some (xM μ p f (nI (s + 1)) (upd st s a1) (upd va s a2)) := by
  unfold vs_Law_emit_sp
  rw [xM_7, if_neg (show ¬ ((200 : Int32) ≤ nI s) from nI_ge (b := 200) hs (by decide)), mwr_nI hs (by decide), xMs70, xM_7, mwr_nI hs (by decide), xMs71, mst_s, xM_7, xMs7, nI_1]
theorem x_emitL {p a1 a2 : Int32} {s : Nat} (hs : s ≤ 200) : ∃ s' st' va', s' ≤ 200 ∧ vs_Law_emit_sp (xM μ p f (nI s) st va) a1 a2 = some (xM μ p f (nI s') st' va') := by
  rcases Nat.lt_or_ge s 200 with c | c
  · exact ⟨s + 1, _, _, c, x_emit c⟩
  · refine ⟨s, st, va, hs, ?_⟩
    unfold vs_Law_emit_sp
    rw [xM_7, if_pos (show (200 : Int32) ≤ nI s from nI_le (a := 200) c (by omega))]
theorem x_aim {p : Int32} {j : Nat} (hj : j < 200) : vs_Law_aimHere_sp (xM μ p f k st va) (nI j) = some (xM μ p f k st (upd va j k)) := by
  unfold vs_Law_aimHere_sp
  rw [within_eq, mbv_s, ix_wi2 (n := 200) 199 (by decide), ifb_t (ix_n hj (by decide)), mwr_nI hj (by decide), xM_7, xMs71]
theorem x_openY {p a : Nat} (ha : a < 6) : vs_LawReading_open (xM μ (nI p) f k st va) (nI a) = some (true, xM μ (nI (p + 1)) f k st va) := by
  unfold vs_LawReading_open
  rw [if_pos (show nI a < (6 : Int32) from nI_lt (b := 6) ha (by decide)), mst_s, xM_3, xMs3, nI_1]
theorem x_openN {p a : Nat} (ha : a = 6) : vs_LawReading_open (xM μ (nI p) f k st va) (nI a) = some (false, xM μ (nI p) (nI (5000 + p)) k st va) := by
  subst ha
  unfold vs_LawReading_open
  rw [if_neg (by decide), x_fail, mbm_s, flt 5 p 5 rfl]
theorem x_expY (h : txX μ N sg) {p : Nat} (hp : p ≤ N) {ch : Int32} (e : sg p = ch) : vs_LawReading_expect (xM μ (nI p) f k st va) ch = some (true, xM μ (nI (p + 1)) f k st va) := by
  unfold vs_LawReading_expect
  rw [x_sign h hp, mbv_s, if_pos e, mst_s, xM_3, xMs3, nI_1]
theorem x_expN (h : txX μ N sg) {p : Nat} (hp : p ≤ N) {ch : Int32} (e : ¬ sg p = ch) : vs_LawReading_expect (xM μ (nI p) f k st va) ch = some (false, xM μ (nI p) (nI (1000 + p)) k st va) := by
  unfold vs_LawReading_expect
  rw [x_sign h hp, mbv_s, if_neg e, x_fail, mbm_s, flt 1 p 1 rfl]
theorem m_opY {p a wn : Nat} {a1 : Int32} (ha : a < 6) (hw : wn < 220) : md_opens (rM ν (nI p) f (nI a) k (nI wn) nb cd wa) a1 = some (true, rM ν (nI (p + 1)) f (nI (a + 1)) k (nI (wn + 1)) nb cd (upd wa wn (1048576 * a1))) := by
  unfold md_opens
  rw [rM_42, if_neg (show ¬ (nI a = (6 : Int32)) from fun z => by have := (nI_eq (b := 6) (by omega) (by decide)).mp z; omega), mst_s, rMs42, rM_44, mwr_nI hw (by decide), rMs32, mst_s, rM_44, rMs44, mst_s, rM_39, rMs39, nI_1, nI_1, nI_1]
theorem m_opN {p a : Nat} {a1 w : Int32} (ha : a = 6) : md_opens (rM ν (nI p) f (nI a) k w nb cd wa) a1 = some (false, rM ν (nI p) (-(nI (5000 + p))) (nI a) k w nb cd wa) := by
  subst ha
  unfold md_opens
  rw [rM_42, if_pos (show nI 6 = 6 from rfl), m_wrong, mbm_s, rM_39, fltM 5 p 5 rfl]
/-- what waits on top -/
def tpO (wa : Nat → Int32) (w : Nat) : Int32 := if w = 0 then -1 else wa (w - 1) / 1048576
theorem tpO_S {w : Nat} : tpO wa (w + 1) = wa w / 1048576 := by unfold tpO; rw [if_neg (by omega), Nat.add_sub_cancel]
theorem tpO_cong {wa wa' : Nat → Int32} {w : Nat} (h : ∀ i, i < w → wa' i = wa i) : tpO wa' w = tpO wa w := by
  unfold tpO
  by_cases e : w = 0
  · rw [if_pos e, if_pos e]
  · rw [if_neg e, if_neg e, h (w - 1) (by omega)]
theorem dvU {x : Nat} (h : x < 2 ^ 31) : nI x / 1048576 = nI (x / 1048576) := pk_div (a := x) (d := 1048576) (by omega) (by decide) (by decide)
theorem m_top {p : Int32} {wn : Nat} (hw : wn ≤ 220) : md_top (rM ν p f o k (nI wn) nb cd wa) = some (tpO wa wn) := by
  unfold md_top tpO
  rw [rM_44]
  by_cases e : wn = 0
  · subst e; rw [if_pos (show nI 0 = 0 from rfl), if_pos rfl]
  · obtain ⟨m, rfl⟩ : ∃ m, wn = m + 1 := ⟨wn - 1, by omega⟩
    rw [if_neg (nI_ne0 (by omega) (by omega)), if_neg e, nI_pred, mrd_nI (by omega) (by decide)]
    rfl
end
