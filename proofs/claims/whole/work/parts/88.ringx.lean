/-! rings: the class -/
theorem lf_snoc {p : Nat → Bool} : ∀ {m i : Nat}, lf p (m + 1) i = (lf p m i).or (if p (i + m) = true then some (i + m) else none)
  | 0, _ => rfl
  | m + 1, i => by
    rw [show lf p (m + 1 + 1) i = if p i = true then some i else lf p (m + 1) (i + 1) from rfl, show lf p (m + 1) i = if p i = true then some i else lf p m (i + 1) from rfl]
    by_cases c : p i = true
    · rw [if_pos c, if_pos c]; rfl
    · rw [if_neg c, if_neg c, lf_snoc, show i + 1 + m = i + (m + 1) by omega]
theorem lf_is_snoc {p : Nat → Bool} {m i : Nat} : (lf p (m + 1) i).isSome = ((lf p m i).isSome || p (i + m)) := by
  rw [lf_snoc]
  cases lf p m i with
  | some x => rfl
  | none =>
    show (if p (i + m) = true then some (i + m) else none).isSome = (false || p (i + m))
    cases p (i + m) <;> rfl
def wOK (μ ν : Mm) : Prop := ∀ r, r < nR ν → ∀ q, q < 16 → tb (μ 45 r) q = askW ν r q
theorem x_awaited {μ ν : Mm} (h : Rel μ ν) {r : Nat} (hr : r < nR ν) : ∃ y, vs_Asks_awaited μ (nI r) = some y ∧ ∀ q, q < 16 → tb y q = askW ν r q := by
  have hB := g_B h.2
  have hR := g_R h.2
  unfold vs_Asks_awaited vs_Asks_awaited_l5
  obtain ⟨e, h1, h2⟩ := miter_cnt (f := fun q : Int32 × Int32 => vs_Asks_awaited_b5 μ (nI r) q.1 q.2) (fun i (a : Int32) => (a, nI i)) (nB ν) (fun i a => ∀ q, q < 16 → tb a q = (lf (askP ν r q) i 0).isSome) (fun e => ∀ q, q < 16 → tb e q = askW ν r q) (fun i a hi hI => by
      left
      have gp : gPlace (ν 5 i) (nR ν) := (h.2.2.1.1 i hi).2.2.2.2.1
      have hb : vs_Asks_awaited_b5 μ (nI r) a (nI i) = if (if wi (ν 5 i) 10 25 = true then ν 5 i - 10 else -1) = -1 then some (.inl (a, nI (i + 1))) else if ν 20 (32 * r + i) = -1 then some (.inl (a, nI (i + 1))) else some (.inl (a ||| ((1 : Int32) <<< ((if wi (ν 5 i) 10 25 = true then ν 5 i - 10 else -1) &&& 31)), nI (i + 1))) := by
        unfold vs_Asks_awaited_b5
        rw [x_B h.1, hB.1, if_neg (nI_ge hi (by omega)), x_holder h.1 (by omega), mbv_s, x_dayOf h.1 h.2 hr (by omega), mbv_s, nI_1]
      have no : (∀ q, q < 16 → askP ν r q i = false) → ∀ q, q < 16 → tb a q = (lf (askP ν r q) (i + 1) 0).isSome := by
        intro hn q hq
        rw [lf_is_snoc, Nat.zero_add, hn q hq, hI q hq, Bool.or_false]
      by_cases c : wi (ν 5 i) 10 25 = true
      · obtain ⟨w, w1, w2⟩ := place_out gp c hR.2
        rw [(hold_iff (ν 5 i) (show w < 16 by omega)).mpr w2, if_neg (nI_v (by omega))] at hb
        by_cases c2 : ν 20 (32 * r + i) = -1
        · rw [if_pos c2] at hb
          exact ⟨a, hb, no (fun q hq => by unfold askP; simp [c2])⟩
        · rw [if_neg c2] at hb
          refine ⟨_, hb, fun q hq => ?_⟩
          rw [tb_set _ (by omega) (by omega), lf_is_snoc, Nat.zero_add, hI q hq]
          congr 1
          unfold askP
          rw [w2, decide_eq_false c2]
          have : (nI (10 + w) = nI (10 + q)) ↔ (q = w) := by rw [nI_eq (by omega) (by omega)]; omega
          simp [this]
      · rw [if_neg c, if_pos rfl] at hb
        refine ⟨a, hb, no (fun q hq => ?_)⟩
        unfold askP
        have : ¬ (ν 5 i = nI (10 + q)) := fun z => c (by
          have := (hold_iff (ν 5 i) hq).mpr z
          cases w : wi (ν 5 i) 10 25
          · rw [w, if_neg (by decide)] at this; exact absurd this.symm (nI_v (by omega))
          · rfl)
        simp [this]) (fun a hI => ⟨a, by
      show vs_Asks_awaited_b5 μ (nI r) a (nI (nB ν)) = _
      unfold vs_Asks_awaited_b5
      rw [x_B h.1, hB.1, if_pos (nI_le (Nat.le_refl _) (by omega))], hI⟩) FU 0 0 (by omega) (by unfold FU; omega) (fun q hq => by rw [tb_zero]; rfl)
  have h1' : miter (fun q : Int32 × Int32 => vs_Asks_awaited_b5 μ (nI r) q.1 q.2) FU (0, 0) = some e := h1
  rw [h1', mbv_s]
  exact ⟨e, rfl, h2⟩
def stF (W : Nat → Nat → Bool) (s R k r : Nat) : Int32 := match lf (fun j => dk W s R j r) k 1 with
  | some j => nI j
  | none => -1
theorem stF_S {W : Nat → Nat → Bool} {s R k r : Nat} : stF W s R (k + 1) r = if dk W s R (k + 1) r = true then nI (k + 1) else stF W s R k r := by
  unfold stF
  rw [lf_snoc, Nat.add_comm 1 k]
  cases q : lf (fun j => dk W s R j r) k 1 with
  | none =>
    by_cases c : dk W s R (k + 1) r = true
    · rw [if_pos c, if_pos c]; rfl
    · rw [if_neg c, if_neg c]; rfl
  | some j =>
    obtain ⟨a1, a2, a3, _⟩ := lf_some q
    have a3' : dk W s R j r = true := a3
    by_cases c : dk W s R (k + 1) r = true
    · have := dk_un c a3'
      omega
    · rw [if_neg c, if_neg c]; rfl
theorem stF_iff {W : Nat → Nat → Bool} {s R k r j : Nat} (h1 : 1 ≤ j) (h2 : j ≤ k) (hk : k < 100) : stF W s R k r = nI j ↔ dk W s R j r = true := by
  unfold stF
  cases q : lf (fun j => dk W s R j r) k 1 with
  | none =>
    have := lf_none q j h1 (by omega)
    have this : dk W s R j r = false := this
    rw [this]
    exact ⟨fun z => absurd z.symm (nI_m1 (by omega)), fun z => (nomatch z)⟩
  | some i =>
    obtain ⟨a1, a2, a3, _⟩ := lf_some q
    have a3' : dk W s R i r = true := a3
    constructor
    · intro z
      have : i = j := (nI_eq (by omega) (by omega)).mp z
      subst this
      exact a3'
    · intro z
      show nI i = nI j
      rw [dk_un a3' z]
theorem x_fill46 (μ : Mm) : vs_Arrays_fill_53178_46 μ (-1) = some (mrp μ 46 (fun j => if j < 16 then -1 else μ 46 j)) := by
  unfold vs_Arrays_fill_53178_46 vs_Arrays_fill_53178_46_l5
  have key := seq_loop (f := fun q : Int32 × Mm => vs_Arrays_fill_53178_46_b5 q.2 (-1) 16 q.1) (fun i => (nI i, mrp μ 46 (fun j => if j < i then -1 else μ 46 j))) 16 _ (fun i hi => by
    show vs_Arrays_fill_53178_46_b5 (mrp μ 46 (fun j => if j < i then -1 else μ 46 j)) (-1) 16 (nI i) = _
    unfold vs_Arrays_fill_53178_46_b5
    rw [if_neg (by exact nI_ge (b := 16) hi (by decide)), mwr_nI hi (by decide), mset_mrp, nI_1]
    congr 3
    congr 1
    funext j
    by_cases e : j = i
    · subst e; rw [upd_s, if_pos (by omega)]
    · rw [upd_n e]
      by_cases c : j < i
      · rw [if_pos c, if_pos (by omega)]
      · rw [if_neg c, if_neg (by omega)]) rfl 16 0 FU (by omega) (by unfold FU; omega)
  have e0 : mrp μ 46 (fun j => if j < 0 then -1 else μ 46 j) = μ := by
    have : (fun j => if j < 0 then (-1 : Int32) else μ 46 j) = μ 46 := by funext j; exact if_neg (Nat.not_lt_zero j)
    rw [this, mrp_self]
  have key' : miter (fun q : Int32 × Mm => vs_Arrays_fill_53178_46_b5 q.2 (-1) 16 q.1) FU (0, mrp μ 46 (fun j => if j < 0 then -1 else μ 46 j)) = some (mrp μ 46 (fun j => if j < 16 then -1 else μ 46 j)) := key
  rw [e0] at key'
  rw [key', mbv_s]
theorem x_layer {μ : Mm} {W : Nat → Nat → Bool} {s R k : Nat} (hs : s < R) (hR : R ≤ 16) (hW : ∀ r, r < R → ∀ q, q < 16 → tb (μ 45 r) q = W r q) {layer seen : Int32} {F : Nat → Int32} (hl : ∀ q, q < 32 → tb layer q = dk W s R k q) (hsn : ∀ q, q < 32 → tb seen q = sn W s R k q) (hF : ∀ r, r < 16 → F r = stF W s R k r) (hk : k < 100) : ∃ x F', vs_Asks_shortestFrom_l36 (mrp μ 46 F) (nI s) (nI R) layer seen (nI (k + 1)) 0 (nI s + 1) = some (x, mrp μ 46 F') ∧ (∀ q, q < 32 → tb x q = dk W s R (k + 1) q) ∧ ∀ r, r < 16 → F' r = stF W s R (k + 1) r := by
  unfold vs_Asks_shortestFrom_l36
  rw [nI_1]
  obtain ⟨e, h1, h2⟩ := miter_cnt (f := fun q : Int32 × Int32 × Mm => vs_Asks_shortestFrom_b36 q.2.2 (nI s) (nI R) layer seen (nI (k + 1)) q.1 q.2.1) (fun i (a : Int32 × (Nat → Int32)) => (a.1, nI i, mrp μ 46 a.2)) R (fun i a => s < i ∧ (∀ q, q < 32 → tb a.1 q = (decide (q < i) && dk W s R (k + 1) q)) ∧ ∀ r, r < 16 → a.2 r = if r < i ∧ dk W s R (k + 1) r = true then nI (k + 1) else F r) (fun e => ∃ F', e.2 = mrp μ 46 F' ∧ (∀ q, q < 32 → tb e.1 q = dk W s R (k + 1) q) ∧ ∀ r, r < 16 → F' r = stF W s R (k + 1) r) (fun i a hi hI => by
      left
      obtain ⟨x, G⟩ := a
      obtain ⟨i1, i2, i3⟩ := hI
      have i2' : ∀ q, q < 32 → tb x q = (decide (q < i) && dk W s R (k + 1) q) := i2
      have i3' : ∀ r, r < 16 → G r = if r < i ∧ dk W s R (k + 1) r = true then nI (k + 1) else F r := i3
      have hz : (μ 45 i &&& layer) = 0 ↔ ¬ ∃ q, q < R ∧ W i q = true ∧ dk W s R k q = true := by
        rw [z_iff]
        constructor
        · rintro z ⟨q, q1, q2, q3⟩
          have := z q (by omega)
          rw [tb_and, hW i hi q (by omega), hl q (by omega), q2, q3] at this
          cases this
        · intro z q hq
          rw [tb_and, hl q hq]
          cases c : dk W s R k q
          · simp
          · have hr := wk_rng (dk_iff.mp c).1
            rw [hW i hi q (by omega)]
            cases c2 : W i q
            · simp
            · exact absurd ⟨q, by omega, c2, c⟩ z
      have hb : vs_Asks_shortestFrom_b36 (mrp μ 46 G) (nI s) (nI R) layer seen (nI (k + 1)) x (nI i) = if dk W s R (k + 1) i = true then some (.inl (x ||| ((1 : Int32) <<< (nI i &&& 31)), nI (i + 1), mrp μ 46 (upd G i (nI (k + 1))))) else some (.inl (x, nI (i + 1), mrp μ 46 G)) := by
        unfold vs_Asks_shortestFrom_b36
        rw [if_neg (nI_ge hi (by omega)), hasBit_eq _ (by omega), mbv_s, hsn i (by omega), mrd_nI (by omega) (by decide), mrp_o (by decide), mwr_nI (by omega) (by decide), mset_mrp, nI_1]
        by_cases c : sn W s R k i = true
        · obtain ⟨j, j1, j2⟩ := sn_iff.mp c
          rw [ifb_t c, if_neg (fun z => by have := dk_un z j2; omega)]
        · rw [ifb_f c]
          by_cases c2 : (μ 45 i &&& layer) = 0
          · rw [if_pos c2, if_neg (fun z => hz.mp c2 (dk_S.mp z).2.2.1)]
          · rw [if_neg c2, if_pos (dk_S.mpr ⟨i1, hi, Classical.not_not.mp (fun z => c2 (hz.mpr z)), fun j hj => by
              cases q : dk W s R j i
              · rfl
              · exact absurd (sn_iff.mpr ⟨j, hj, q⟩) c⟩)]
      by_cases c : dk W s R (k + 1) i = true
      · rw [if_pos c] at hb
        refine ⟨(_, _), hb, by omega, fun q hq => ?_, fun r hr => ?_⟩
        · rw [tb_set _ (by omega) hq, i2' q hq]
          by_cases e : q = i
          · subst e; rw [c]; simp
          · have : (q < i) ↔ (q < i + 1) := by omega
            simp [this, e]
        · show upd G i (nI (k + 1)) r = _
          by_cases e : r = i
          · subst e; rw [upd_s, if_pos ⟨by omega, c⟩]
          · rw [upd_n e, i3' r hr]
            have : (r < i) ↔ (r < i + 1) := by omega
            simp only [this]
      · rw [if_neg c] at hb
        refine ⟨(_, _), hb, by omega, fun q hq => ?_, fun r hr => ?_⟩
        · show tb x q = _
          rw [i2' q hq]
          by_cases e : q = i
          · subst e; simp [c]
          · have : (q < i) ↔ (q < i + 1) := by omega
            simp [this]
        · show G r = _
          rw [i3' r hr]
          by_cases e : r = i
          · subst e
            rw [if_neg (fun z => c z.2), if_neg (fun z => c z.2)]
          · have : (r < i) ↔ (r < i + 1) := by omega
            simp only [this]) (fun a hI => by
      obtain ⟨x, G⟩ := a
      obtain ⟨_, i2, i3⟩ := hI
      have i3' : ∀ r, r < 16 → G r = if r < R ∧ dk W s R (k + 1) r = true then nI (k + 1) else F r := i3
      refine ⟨(x, mrp μ 46 G), ?_, G, rfl, fun q hq => ?_, fun r hr => ?_⟩
      · show vs_Asks_shortestFrom_b36 (mrp μ 46 G) (nI s) (nI R) layer seen (nI (k + 1)) x (nI R) = _
        unfold vs_Asks_shortestFrom_b36
        rw [if_pos (nI_le (Nat.le_refl _) (by omega))]
      · show tb x q = _
        rw [i2 q hq]
        cases c : dk W s R (k + 1) q
        · simp
        · have := (dk_rng c).2
          simp [this]
      · rw [i3' r hr, stF_S]
        by_cases c : dk W s R (k + 1) r = true
        · have := (dk_rng c).2
          rw [if_pos ⟨this, c⟩, if_pos c]
        · rw [if_neg (fun z => c z.2), if_neg c]; exact hF r hr) FU (s + 1) (0, F) (by omega) (by unfold FU; omega) ⟨by omega, fun q hq => by
      show tb 0 q = _
      rw [tb_zero]
      cases c : dk W s R (k + 1) q
      · simp
      · have := (dk_rng c).1
        have : ¬ q < s + 1 := by omega
        simp [this], fun r hr => by
      show F r = _
      rw [if_neg (fun z => by have := (dk_rng z.2).1; omega)]⟩
  obtain ⟨x, u⟩ := e
  obtain ⟨F', f1, f2, f3⟩ := h2
  have f1' : u = mrp μ 46 F' := f1
  subst f1'
  exact ⟨x, F', h1, f2, f3⟩
theorem x_short {μ : Mm} {W : Nat → Nat → Bool} {s R : Nat} (hs : s < R) (hR : R ≤ 16) (hW : ∀ r, r < R → ∀ q, q < 16 → tb (μ 45 r) q = W r q) : ∃ F, (lstO W s R = none ∧ vs_Asks_shortestFrom μ (nI s) (nI R) = some (-1, mrp μ 46 F)) ∨ ∃ k, lstO W s R = some k ∧ vs_Asks_shortestFrom μ (nI s) (nI R) = some (nI (k + 1), mrp μ 46 F) ∧ ∀ r, r < 16 → F r = stF W s R k r := by
  unfold vs_Asks_shortestFrom
  rw [x_fill46, mbv_s]
  unfold vs_Asks_shortestFrom_l18
  obtain ⟨e, h1, h2⟩ := miter_cnt (f := fun q : Int32 × Int32 × Int32 × Mm => vs_Asks_shortestFrom_b18 q.2.2.2 (nI s) (nI R) q.1 q.2.1 q.2.2.1) (fun i (a : Int32 × Int32 × (Nat → Int32)) => (a.1, a.2.1, nI (i + 1), mrp μ 46 a.2.2)) (R - 1) (fun i a => (∀ q, q < 32 → tb a.1 q = dk W s R i q) ∧ (∀ q, q < 32 → tb a.2.1 q = sn W s R i q) ∧ (∀ r, r < 16 → a.2.2 r = stF W s R i r) ∧ ∀ j, 1 ≤ j → j ≤ i → hitB W s R j = false) (fun e => ∃ F, (lstO W s R = none ∧ e = .inr (mrp μ 46 F)) ∨ ∃ k, lstO W s R = some k ∧ e = .inl (nI k, mrp μ 46 F) ∧ ∀ r, r < 16 → F r = stF W s R k r) (fun i a hi hI => by
      obtain ⟨layer, seen, F⟩ := a
      obtain ⟨i1, i2, i3, i4⟩ := hI
      have i1' : ∀ q, q < 32 → tb layer q = dk W s R i q := i1
      by_cases c : layer = 0
      · right
        refine ⟨.inr (mrp μ 46 F), ?_, F, Or.inl ⟨?_, rfl⟩⟩
        · show vs_Asks_shortestFrom_b18 (mrp μ 46 F) (nI s) (nI R) layer seen (nI (i + 1)) = _
          unfold vs_Asks_shortestFrom_b18
          rw [if_neg (nI_ge (by omega) (by omega)), if_pos c]
        · refine lf_no (fun j j1 j2 => ?_)
          by_cases cj : j ≤ i
          · exact i4 j j1 cj
          · cases z : hitB W s R j
            · rfl
            · obtain ⟨r, _, _, r3⟩ := hit_iff.mp z
              obtain ⟨q, hq⟩ := dk_ne r3 i (by omega)
              have hr := wk_rng (dk_iff.mp hq).1
              have := i1' q (by omega)
              rw [c, tb_zero, hq] at this
              cases this
      · obtain ⟨x, F', x1, x2, x3⟩ := x_layer hs hR hW i1 i2 i3 (show i < 100 by omega)
        have hz : (μ 45 s &&& x) = 0 ↔ hitB W s R (i + 1) = false := by
          rw [z_iff]
          constructor
          · intro z
            cases w : hitB W s R (i + 1)
            · rfl
            · obtain ⟨r, r1, r2, r3⟩ := hit_iff.mp w
              have := z r (by omega)
              rw [tb_and, hW s hs r (by omega), x2 r (by omega), r2, r3] at this
              cases this
          · intro z q hq
            rw [tb_and, x2 q hq]
            cases w : dk W s R (i + 1) q
            · simp
            · have hr := dk_rng w
              rw [hW s hs q (by omega)]
              cases w2 : W s q
              · simp
              · rw [hit_iff.mpr ⟨q, hr.2, w2, w⟩] at z; cases z
        have hb : vs_Asks_shortestFrom_b18 (mrp μ 46 F) (nI s) (nI R) layer seen (nI (i + 1)) = if (μ 45 s &&& x) = 0 then some (.inl (x, seen ||| x, nI (i + 1 + 1), mrp μ 46 F')) else some (.inr (.inl (nI (i + 1), mrp μ 46 F'))) := by
          unfold vs_Asks_shortestFrom_b18
          rw [if_neg (nI_ge (by omega) (by omega)), if_neg c, x1, mbv_s]
          simp only [un2]
          rw [mrd_nI (by omega) (by decide), mrp_o (by decide), nI_1]
        by_cases c2 : (μ 45 s &&& x) = 0
        · left
          rw [if_pos c2] at hb
          refine ⟨(x, seen ||| x, F'), hb, x2, fun q hq => ?_, x3, fun j j1 j2 => ?_⟩
          · show tb (seen ||| x) q = _
            rw [tb_or, i2 q hq, x2 q hq]
            unfold sn
            rw [lf_is_snoc (m := i + 1), Nat.zero_add]
          · by_cases e : j = i + 1
            · subst e; exact hz.mp c2
            · exact i4 j j1 (by omega)
        · right
          rw [if_neg c2] at hb
          refine ⟨_, hb, F', Or.inr ⟨i + 1, lf_eq (by omega) (by omega) ?_ (fun j j1 j2 => i4 j j1 (by omega)), rfl, x3⟩⟩
          cases w : hitB W s R (i + 1)
          · exact absurd (hz.mpr w) c2
          · rfl) (fun a hI => by
      obtain ⟨layer, seen, F⟩ := a
      obtain ⟨i1, i2, i3, i4⟩ := hI
      refine ⟨.inr (mrp μ 46 F), ?_, F, Or.inl ⟨lf_no (fun j j1 j2 => i4 j j1 (by omega)), rfl⟩⟩
      show vs_Asks_shortestFrom_b18 (mrp μ 46 F) (nI s) (nI R) layer seen (nI (R - 1 + 1)) = _
      unfold vs_Asks_shortestFrom_b18
      rw [if_pos (nI_le (by omega) (by omega))]) FU 0 ((1 : Int32) <<< (nI s &&& 31), (1 : Int32) <<< (nI s &&& 31), fun j => if j < 16 then -1 else μ 46 j) (by omega) (by unfold FU; omega) ⟨fun q hq => by
      show tb ((1 : Int32) <<< (nI s &&& 31)) q = _
      rw [tb_shl1 s (by omega) q hq, Bool.eq_iff_iff, decide_eq_true_eq]
      exact dk_0.symm, fun q hq => by
      show tb ((1 : Int32) <<< (nI s &&& 31)) q = _
      rw [tb_shl1 s (by omega) q hq, Bool.eq_iff_iff, decide_eq_true_eq]
      constructor
      · intro z; exact sn_iff.mpr ⟨0, Nat.le_refl _, dk_0.mpr z⟩
      · intro z
        obtain ⟨j, j1, j2⟩ := sn_iff.mp z
        have : j = 0 := by omega
        subst this
        exact dk_0.mp j2, fun r hr => if_pos hr, fun j j1 j2 => by omega⟩
  have h1' : miter (fun q : Int32 × Int32 × Int32 × Mm => vs_Asks_shortestFrom_b18 q.2.2.2 (nI s) (nI R) q.1 q.2.1 q.2.2.1) FU ((1 : Int32) <<< (nI s &&& 31), (1 : Int32) <<< (nI s &&& 31), 1, mrp μ 46 (fun j => if j < 16 then -1 else μ 46 j)) = some e := h1
  rw [h1']
  obtain ⟨F, c | ⟨k, k1, k2, k3⟩⟩ := h2
  · refine ⟨F, Or.inl ⟨c.1, ?_⟩⟩
    rw [c.2]
    rfl
  · refine ⟨F, Or.inr ⟨k, k1, ?_, k3⟩⟩
    rw [k2]
    show some (nI k + 1, mrp μ 46 F) = _
    rw [nI_1]
