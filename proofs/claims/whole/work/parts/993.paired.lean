/-! pairs: the reference's search goes round, and its count -/
def nupd (ρ : Nat → Nat) (i v : Nat) : Nat → Nat := fun j => if j = i then v else ρ j
theorem nupd_s {ρ : Nat → Nat} {i v : Nat} : nupd ρ i v i = v := if_pos rfl
theorem nupd_n {ρ : Nat → Nat} {i j v : Nat} (h : j ≠ i) : nupd ρ i v j = ρ j := if_neg h
section
variable {ν : Mm} {R B : Nat} {c : Nat → Option Nat}
theorem bfs_many {F : Nat → Nat → Bool} {b0 : Nat} {f q : Nat → Int32} {many : Nat} {ρ : Nat → Nat} (h : bfs F R B c b0 f q many ρ) : 1 ≤ many ∧ many ≤ R + 1 := by
  have := h.1
  have := cn_le (fun r => decide (f r ≠ -1)) R
  omega
theorem m_bfs_in (e3 : ν 0 3 = nI R) (hR : R ≤ 16) (hB : B ≤ 32) {h : Nat → Int32} (a : Nat → Int32) (hh : ∀ r, r < R → h r = eo (c r)) (hc : ∀ r x, c r = some x → x < B) {b0 : Nat} {f q : Nat → Int32} {many : Nat} {ρ : Nat → Nat} (hb : bfs (wF ν) R B c b0 f q many ρ) {k x : Nat} (hk : k < many) (hq : q k = nI x) (hx : x < B) : ∃ f' q' many' ρ', bfs (wF ν) R B c b0 f' q' many' ρ' ∧ many ≤ many' ∧ (∀ j, j < many → q' j = q j) ∧ (∀ r, f r ≠ -1 → f' r ≠ -1) ∧ ((md_finds_l42 (mq ν h a f q) (nI k) (nI many) 0 = some (.inr (nI many', mq ν h a f' q')) ∧ ∀ r, r < R → wF ν x r = true → f' r ≠ -1) ∨ ∃ r, r < R ∧ c r = none ∧ wF ν x r = true ∧ md_finds_l42 (mq ν h a f q) (nI k) (nI many) 0 = some (.inl (nI r, mq ν h a (upd f' r (nI x)) q'))) := by
  unfold md_finds_l42
  obtain ⟨e, h1, h2⟩ := miter_cnt (f := fun z : Int32 × Int32 × Mm => md_finds_b42 z.2.2 (nI k) z.1 z.2.1) (fun i (s : Nat × (Nat → Int32) × (Nat → Int32) × (Nat → Nat)) => (nI s.1, nI i, mq ν h a s.2.1 s.2.2.1)) R (fun i s => bfs (wF ν) R B c b0 s.2.1 s.2.2.1 s.1 s.2.2.2 ∧ many ≤ s.1 ∧ (∀ j, j < many → s.2.2.1 j = q j) ∧ (∀ r, f r ≠ -1 → s.2.1 r ≠ -1) ∧ ∀ r, r < i → wF ν x r = true → s.2.1 r ≠ -1) (fun e => ∃ f' q' many' ρ', bfs (wF ν) R B c b0 f' q' many' ρ' ∧ many ≤ many' ∧ (∀ j, j < many → q' j = q j) ∧ (∀ r, f r ≠ -1 → f' r ≠ -1) ∧ ((e = .inr (nI many', mq ν h a f' q') ∧ ∀ r, r < R → wF ν x r = true → f' r ≠ -1) ∨ ∃ r, r < R ∧ c r = none ∧ wF ν x r = true ∧ e = .inl (nI r, mq ν h a (upd f' r (nI x)) q'))) (fun i s hi hI => by
      obtain ⟨m, f1, q1, ρ1⟩ := s
      obtain ⟨i1, i2, i3, i4, i5⟩ := hI
      have i1' : bfs (wF ν) R B c b0 f1 q1 m ρ1 := i1
      have i2' : many ≤ m := i2
      have i3' : ∀ j, j < many → q1 j = q j := i3
      have i4' : ∀ r, f r ≠ -1 → f1 r ≠ -1 := i4
      have i5' : ∀ r, r < i → wF ν x r = true → f1 r ≠ -1 := i5
      obtain ⟨mm1, mm2⟩ := bfs_many i1'
      have qk : q1 k = nI x := by rw [i3' k hk, hq]
      have hb : md_finds_b42 (mq ν h a f1 q1) (nI k) (nI m) (nI i) = if ν 50 (32 * i + x) = 0 then some (.inl (nI m, nI (i + 1), mq ν h a f1 q1)) else if f1 i = -1 then (if h i = -1 then some (.inr (.inl (nI i, mq ν h a (upd f1 i (nI x)) q1))) else some (.inl (nI (m + 1), nI (i + 1), mq ν h a (upd f1 i (nI x)) (upd q1 m (h i))))) else some (.inl (nI m, nI (i + 1), mq ν h a f1 q1)) := by
        unfold md_finds_b42
        rw [show mq ν h a f1 q1 0 3 = nI R from e3, if_neg (nI_ge hi (by omega)), mrd_nI (show k < 32 by omega) (by decide), show mq ν h a f1 q1 54 k = nI x from qk, nI_1, nI_1]
        refine (mrd_at (ix2 32 i x) (by omega) (by decide)).trans ?_
        rw [show mq ν h a f1 q1 50 (32 * i + x) = ν 50 (32 * i + x) from rfl, mrd_nI (show i < 16 by omega) (by decide), show mq ν h a f1 q1 53 i = f1 i from rfl, mrd_nI (show k < 32 by omega) (by decide), show mq ν h a f1 q1 54 k = nI x from qk, mwr_nI (show i < 16 by omega) (by decide), mq_53, mrd_nI (show i < 16 by omega) (by decide), show mq ν h a (upd f1 i (nI x)) q1 51 i = h i from rfl, mrd_nI (show i < 16 by omega) (by decide), show mq ν h a (upd f1 i (nI x)) q1 51 i = h i from rfl, mwr_nI (show m < 32 by omega) (by decide), mq_54]
      by_cases c1 : ν 50 (32 * i + x) = 0
      · left
        rw [if_pos c1] at hb
        refine ⟨(m, f1, q1, ρ1), hb, i1', i2', i3', i4', fun r hr hF => ?_⟩
        by_cases e : r = i
        · subst e; unfold wF at hF; simp [c1] at hF
        · exact i5' r (by omega) hF
      · have hFi : wF ν x i = true := by unfold wF; simp [c1]
        rw [if_neg c1] at hb
        by_cases c2 : f1 i = -1
        · rw [if_pos c2, hh i hi] at hb
          cases e : c i with
          | none =>
            right
            rw [e, if_pos (show eo none = -1 from rfl)] at hb
            exact ⟨_, hb, f1, q1, m, ρ1, i1', i2', i3', i4', Or.inr ⟨i, hi, e, hFi, rfl⟩⟩
          | some y =>
            left
            have hy := hc i y e
            rw [e, if_neg (show ¬ (eo (some y) = -1) from nI_m1 (by omega))] at hb
            obtain ⟨b1, b2, b3, b4, b5⟩ := i1'
            have hne : ∀ j, 1 ≤ j → j < m → ρ1 j ≠ i := fun j j1 j2 z => by
              have := (b4 j j1 j2).2.1
              rw [z] at this
              exact this c2
            refine ⟨(m + 1, upd f1 i (nI x), upd q1 m (nI y), nupd ρ1 m i), hb, ⟨?_, ?_, fun r hr hfr => ?_, fun j j1 j2 => ?_, fun j j' j1 j2 j1' j2' ej => ?_⟩, by show many ≤ m + 1; omega, fun j hj => ?_, fun r hr => ?_, fun r hr hF => ?_⟩
            · have := cn_up (p := fun r => decide (f1 r ≠ -1)) (p' := fun r => decide (upd f1 i (nI x) r ≠ -1)) (b := i) (fun z hz => by show decide (upd f1 i (nI x) z ≠ -1) = _; rw [upd_n hz]) (by simp [c2]) (by
                show decide (upd f1 i (nI x) i ≠ -1) = true
                rw [upd_s]; exact decide_eq_true (nI_m1 (by omega))) hi
              show m + 1 = 1 + cn (fun r => decide (upd f1 i (nI x) r ≠ -1)) R
              omega
            · show upd q1 m (nI y) 0 = nI b0
              rw [upd_n (by omega)]; exact b2
            · have hfr' : upd f1 i (nI x) r ≠ -1 := hfr
              show ∃ j k x', 1 ≤ j ∧ j < m + 1 ∧ nupd ρ1 m i j = r ∧ k < j ∧ x' < B ∧ upd q1 m (nI y) k = nI x' ∧ upd f1 i (nI x) r = nI x' ∧ wF ν x' r = true
              by_cases er : r = i
              · subst er
                exact ⟨m, k, x, mm1, by omega, nupd_s, by omega, hx, by rw [upd_n (by omega)]; exact qk, upd_s _ _ _, hFi⟩
              · rw [upd_n er] at hfr'
                obtain ⟨j, k0, x0, z1, z2, z3, z4, z5, z6, z7, z8⟩ := b3 r hr hfr'
                exact ⟨j, k0, x0, z1, by omega, by rw [nupd_n (by omega)]; exact z3, z4, z5, by rw [upd_n (by omega)]; exact z6, by rw [upd_n er]; exact z7, z8⟩
            · show nupd ρ1 m i j < R ∧ upd f1 i (nI x) (nupd ρ1 m i j) ≠ -1 ∧ ∃ x', x' < B ∧ c (nupd ρ1 m i j) = some x' ∧ upd q1 m (nI y) j = nI x'
              have j2' : j < m + 1 := j2
              by_cases ej : j = m
              · subst ej
                rw [nupd_s, upd_s, upd_s]
                exact ⟨hi, nI_m1 (by omega), y, hy, e, rfl⟩
              · rw [nupd_n ej, upd_n (hne j j1 (by omega)), upd_n ej]
                exact b4 j j1 (by omega)
            · have j2a : j < m + 1 := j2
              have j2b : j' < m + 1 := j2'
              have ej' : nupd ρ1 m i j = nupd ρ1 m i j' := ej
              by_cases e1 : j = m
              · by_cases e2 : j' = m
                · omega
                · rw [e1, nupd_s, nupd_n e2] at ej'
                  exact absurd ej'.symm (hne j' j1' (by omega))
              · by_cases e2 : j' = m
                · rw [e2, nupd_s, nupd_n e1] at ej'
                  exact absurd ej' (hne j j1 (by omega))
                · rw [nupd_n e1, nupd_n e2] at ej'
                  exact b5 j j' j1 (by omega) j1' (by omega) ej'
            · show upd q1 m (nI y) j = q j
              rw [upd_n (by omega)]; exact i3' j hj
            · show upd f1 i (nI x) r ≠ -1
              by_cases er : r = i
              · subst er; rw [upd_s]; exact nI_m1 (by omega)
              · rw [upd_n er]; exact i4' r hr
            · show upd f1 i (nI x) r ≠ -1
              by_cases er : r = i
              · subst er; rw [upd_s]; exact nI_m1 (by omega)
              · rw [upd_n er]; exact i5' r (by omega) hF
        · left
          rw [if_neg c2] at hb
          refine ⟨(m, f1, q1, ρ1), hb, i1', i2', i3', i4', fun r hr hF => ?_⟩
          by_cases e : r = i
          · subst e; exact c2
          · exact i5' r (by omega) hF) (fun s hI => by
      obtain ⟨m, f1, q1, ρ1⟩ := s
      obtain ⟨i1, i2, i3, i4, i5⟩ := hI
      refine ⟨.inr (nI m, mq ν h a f1 q1), ?_, f1, q1, m, ρ1, i1, i2, i3, i4, Or.inl ⟨rfl, i5⟩⟩
      show md_finds_b42 (mq ν h a f1 q1) (nI k) (nI m) (nI R) = _
      unfold md_finds_b42
      rw [show mq ν h a f1 q1 0 3 = nI R from e3, if_pos (nI_le (Nat.le_refl _) (by omega))]) FU 0 (many, f, q, ρ) (by omega) (by unfold FU; omega) ⟨hb, Nat.le_refl _, fun _ _ => rfl, fun _ z => z, fun r hr => absurd hr (Nat.not_lt_zero r)⟩
  have h1' : miter (fun z : Int32 × Int32 × Mm => md_finds_b42 z.2.2 (nI k) z.1 z.2.1) FU (nI many, 0, mq ν h a f q) = some e := h1
  obtain ⟨f', q', many', ρ', g1, g2, g3, g4, g5⟩ := h2
  refine ⟨f', q', many', ρ', g1, g2, g3, g4, ?_⟩
  rw [h1']
  rcases g5 with ⟨g5, g6⟩ | ⟨r, r1, r2, r3, r4⟩
  · exact Or.inl ⟨by rw [g5], g6⟩
  · exact Or.inr ⟨r, r1, r2, r3, by rw [r4]⟩
theorem m_bfs (e3 : ν 0 3 = nI R) (hR : R ≤ 16) (hB : B ≤ 32) {h : Nat → Int32} (a : Nat → Int32) (hh : ∀ r, r < R → h r = eo (c r)) (hc : ∀ r x, c r = some x → x < B) {b0 : Nat} (hb0 : b0 < B) {f q : Nat → Int32} {ρ : Nat → Nat} (hb : bfs (wF ν) R B c b0 f q 1 ρ) : ∃ f' q' many' ρ', bfs (wF ν) R B c b0 f' q' many' ρ' ∧ ((md_finds_l34 (mq ν h a f q) 1 0 = some (.inr (mq ν h a f' q')) ∧ ∀ k x r, k < many' → q' k = nI x → x < B → r < R → wF ν x r = true → f' r ≠ -1) ∨ ∃ r k x, r < R ∧ c r = none ∧ k < many' ∧ x < B ∧ q' k = nI x ∧ wF ν x r = true ∧ md_finds_l34 (mq ν h a f q) 1 0 = some (.inl (nI r, mq ν h a (upd f' r (nI x)) q'))) := by
  unfold md_finds_l34
  obtain ⟨e, h1, h2⟩ := miter_cnt (f := fun z : Int32 × Int32 × Mm => md_finds_b34 z.2.2 z.1 z.2.1) (fun k (s : Nat × (Nat → Int32) × (Nat → Int32) × (Nat → Nat)) => (nI s.1, nI k, mq ν h a s.2.1 s.2.2.1)) 17 (fun k s => bfs (wF ν) R B c b0 s.2.1 s.2.2.1 s.1 s.2.2.2 ∧ k ≤ s.1 ∧ ∀ k' x r, k' < k → s.2.2.1 k' = nI x → x < B → r < R → wF ν x r = true → s.2.1 r ≠ -1) (fun e => ∃ f' q' many' ρ', bfs (wF ν) R B c b0 f' q' many' ρ' ∧ ((e = .inr (mq ν h a f' q') ∧ ∀ k x r, k < many' → q' k = nI x → x < B → r < R → wF ν x r = true → f' r ≠ -1) ∨ ∃ r k x, r < R ∧ c r = none ∧ k < many' ∧ x < B ∧ q' k = nI x ∧ wF ν x r = true ∧ e = .inl (nI r, mq ν h a (upd f' r (nI x)) q'))) (fun k s hk hI => by
      obtain ⟨m, f1, q1, ρ1⟩ := s
      obtain ⟨i1, i2, i3⟩ := hI
      have i1' : bfs (wF ν) R B c b0 f1 q1 m ρ1 := i1
      have i2' : k ≤ m := i2
      have i3' : ∀ k' x r, k' < k → q1 k' = nI x → x < B → r < R → wF ν x r = true → f1 r ≠ -1 := i3
      obtain ⟨mm1, mm2⟩ := bfs_many i1'
      by_cases ck : m = k
      · right
        subst ck
        refine ⟨.inr (mq ν h a f1 q1), ?_, f1, q1, m, ρ1, i1', Or.inl ⟨rfl, i3'⟩⟩
        show md_finds_b34 (mq ν h a f1 q1) (nI m) (nI m) = _
        unfold md_finds_b34
        rw [if_pos (nI_le (Nat.le_refl _) (by omega))]
      · have hqk : ∃ x, x < B ∧ q1 k = nI x := by
          by_cases k0 : k = 0
          · subst k0; exact ⟨b0, hb0, i1'.2.1⟩
          · obtain ⟨_, _, x, x1, _, x3⟩ := i1'.2.2.2.1 k (by omega) (by omega)
            exact ⟨x, x1, x3⟩
        obtain ⟨x, hx, qk⟩ := hqk
        obtain ⟨f', q', m', ρ', g1, g2, g3, g4, g5⟩ := m_bfs_in e3 hR hB a hh hc i1' (k := k) (by omega) qk hx
        have hb2 : md_finds_b34 (mq ν h a f1 q1) (nI m) (nI k) = msum2 (md_finds_l42 (mq ν h a f1 q1) (nI k) (nI m) 0) (un2 fun x19 μ20 => some (.inr (.inl (x19, μ20)))) (un2 fun x21 μ22 => some (.inl (x21, nI k + 1, μ22))) := by
          unfold md_finds_b34
          rw [if_neg (nI_ge (by omega) (by omega))]
        rcases g5 with ⟨g5, g6⟩ | ⟨r, r1, r2, r3, r4⟩
        · left
          refine ⟨(m', f', q', ρ'), ?_, g1, by show k + 1 ≤ m'; omega, fun k' x' r' z1 z2 z3 z4 z5 => ?_⟩
          · show md_finds_b34 (mq ν h a f1 q1) (nI m) (nI k) = _
            rw [hb2, g5]
            show some (Sum.inl (nI m', nI k + 1, mq ν h a f' q')) = _
            rw [nI_1]
          · have z2' : q' k' = nI x' := z2
            show f' r' ≠ -1
            by_cases e : k' = k
            · subst e
              rw [g3 k' (by omega), qk] at z2'
              have := (nI_eq (by omega) (by omega)).mp z2'
              subst this
              exact g6 r' z4 z5
            · rw [g3 k' (by omega)] at z2'
              exact g4 r' (i3' k' x' r' (by omega) z2' z3 z4 z5)
        · right
          refine ⟨.inl (nI r, mq ν h a (upd f' r (nI x)) q'), ?_, f', q', m', ρ', g1, Or.inr ⟨r, k, x, r1, r2, by omega, hx, by rw [g3 k (by omega)]; exact qk, r3, rfl⟩⟩
          show md_finds_b34 (mq ν h a f1 q1) (nI m) (nI k) = _
          rw [hb2, r4]
          rfl) (fun s hI => by
      obtain ⟨m, f1, q1, ρ1⟩ := s
      obtain ⟨i1, i2, i3⟩ := hI
      have i1' : bfs (wF ν) R B c b0 f1 q1 m ρ1 := i1
      obtain ⟨mm1, mm2⟩ := bfs_many i1'
      have i2' : 17 ≤ m := i2
      refine ⟨.inr (mq ν h a f1 q1), ?_, f1, q1, m, ρ1, i1', Or.inl ⟨rfl, fun k x r z1 => i3 k x r (by omega)⟩⟩
      show md_finds_b34 (mq ν h a f1 q1) (nI m) (nI 17) = _
      unfold md_finds_b34
      rw [if_pos (nI_le (by omega) (by omega))]) FU 0 (1, f, q, ρ) (by omega) (by unfold FU; omega) ⟨hb, Nat.zero_le _, fun k' x r z => absurd z (Nat.not_lt_zero k')⟩
  have h1' : miter (fun z : Int32 × Int32 × Mm => md_finds_b34 z.2.2 z.1 z.2.1) FU (1, 0, mq ν h a f q) = some e := h1
  obtain ⟨f', q', many', ρ', g1, g5⟩ := h2
  refine ⟨f', q', many', ρ', g1, ?_⟩
  rw [h1']
  rcases g5 with ⟨g5, g6⟩ | ⟨r, k, x, r1, r2, r3, r4, r5, r6, r7⟩
  · exact Or.inl ⟨by rw [g5], g6⟩
  · exact Or.inr ⟨r, k, x, r1, r2, r3, r4, r5, r6, by rw [r7]⟩
theorem m_finds (e3 : ν 0 3 = nI R) (hR : R ≤ 16) (hB : B ≤ 32) {P T : Nat → Bool} (hP : ∀ x, P x = true → x < B) {h a f q : Nat → Int32} (hok : mqOK R B h a c) (hinv : mInv (wF ν) P R c T) {b0 : Nat} (hb0 : b0 < B) (hPb : P b0 = false) : ∃ ok h' a' f' q' c' T', md_finds (mq ν h a f q) (nI b0) = some (ok, mq ν h' a' f' q') ∧ mqOK R B h' a' c' ∧ mInv (wF ν) (pad P b0) R c' T' ∧ mSz c' R = mSz c R + ok.toNat := by
  have hc : ∀ r x, c r = some x → x < B := fun r x e => hP x (hinv.1 r x e).2.1
  unfold md_finds
  have l2 : md_finds_l2 (mq ν h a f q) (nI b0) 0 = some (mq ν h a (fun r => if r < R then -1 else f r) q) := by
    unfold md_finds_l2
    have key := seq_loop (f := fun z : Int32 × Mm => md_finds_b2 z.2 (nI b0) z.1) (fun i => (nI i, mq ν h a (fun r => if r < i then -1 else f r) q)) R _ (fun i hi => by
      show md_finds_b2 (mq ν h a (fun r => if r < i then -1 else f r) q) (nI b0) (nI i) = _
      unfold md_finds_b2
      rw [show mq ν h a (fun r => if r < i then -1 else f r) q 0 3 = nI R from e3, if_neg (nI_ge hi (by omega)), mwr_nI (by omega) (by decide), mq_53, nI_1]
      congr 3
      congr 1
      funext j
      by_cases e : j = i
      · subst e; rw [upd_s, if_pos (by omega)]
      · rw [upd_n e]
        by_cases c : j < i
        · rw [if_pos c, if_pos (by omega)]
        · rw [if_neg c, if_neg (by omega)]) (by
      show md_finds_b2 (mq ν h a (fun r => if r < R then -1 else f r) q) (nI b0) (nI R) = _
      unfold md_finds_b2
      rw [show mq ν h a (fun r => if r < R then -1 else f r) q 0 3 = nI R from e3, if_pos (nI_le (Nat.le_refl _) (by omega))]) R 0 FU (by omega) (by unfold FU; omega)
    have e0 : (fun r => if r < 0 then (-1 : Int32) else f r) = f := by funext j; exact if_neg (Nat.not_lt_zero j)
    have key' : miter (fun z : Int32 × Mm => md_finds_b2 z.2 (nI b0) z.1) FU (0, mq ν h a (fun r => if r < 0 then -1 else f r) q) = some (mq ν h a (fun r => if r < R then -1 else f r) q) := key
    rw [e0] at key'
    exact key'
  rw [l2, mbv_s, show (0 : Int32) = nI 0 from rfl, mwr_nI (by decide) (by decide), mq_54, show nI 0 = (0 : Int32) from rfl]
  have hb : bfs (wF ν) R B c b0 (fun r => if r < R then -1 else f r) (upd q 0 (nI b0)) 1 (fun _ => 0) := by
    refine ⟨?_, upd_s _ _ _, fun r hr hfr => absurd (if_pos hr) hfr, fun j j1 j2 => by omega, fun j j' j1 j2 => by omega⟩
    rw [cn_zero (fun r hr => by
      show decide ((if r < R then (-1 : Int32) else f r) ≠ -1) = false
      rw [if_pos hr]; simp)]
  obtain ⟨f', q', many', ρ', g1, g5⟩ := m_bfs e3 hR hB a hok.1 hc hb0 hb
  obtain ⟨mm1, mm2⟩ := bfs_many g1
  rcases g5 with ⟨g5, g6⟩ | ⟨r, k, x, r1, r2, r3, r4, r5, r6, r7⟩
  · rw [g5]
    refine ⟨false, h, a, f', q', c, _, rfl, hok, m_fail hinv b0 (fun r => decide (r < R) && decide (f' r ≠ -1)) (fun y hy => ?_) (fun y hy hF => ?_) (fun y x hy hcy y' hy' hF => ?_), rfl⟩
    · rw [Bool.and_eq_true, decide_eq_true_eq, decide_eq_true_eq] at hy
      obtain ⟨j, k, x, z1, z2, z3, _⟩ := g1.2.2.1 y hy.1 hy.2
      obtain ⟨_, _, x', _, z5, _⟩ := g1.2.2.2.1 j z1 z2
      rw [z3] at z5
      rw [z5]; rfl
    · rw [Bool.and_eq_true, decide_eq_true_eq, decide_eq_true_eq]
      exact ⟨hy, g6 0 b0 y (by omega) g1.2.1 hb0 hy hF⟩
    · rw [Bool.and_eq_true, decide_eq_true_eq, decide_eq_true_eq] at hy ⊢
      obtain ⟨j, k, x', z1, z2, z3, _⟩ := g1.2.2.1 y hy.1 hy.2
      obtain ⟨_, _, x2, y1, y2, y3⟩ := g1.2.2.2.1 j z1 z2
      rw [z3, hcy] at y2
      have := Option.some.inj y2
      subst this
      exact ⟨hy', g6 j x y' z2 y3 y1 hy' hF⟩
  · rw [r7]
    have hnb : ∀ z, c z ≠ some b0 := fun z e => by rw [(hinv.1 z b0 e).2.1] at hPb; cases hPb
    have hfj : ∀ j, 1 ≤ j → j < many' → ρ' j ≠ r := fun j j1 j2 e => by
      obtain ⟨_, _, x2, _, y2, _⟩ := g1.2.2.2.1 j j1 j2
      rw [e, r2] at y2; cases y2
    obtain ⟨h', a', c', w1, w2, w3, w4⟩ := m_passes (ν := ν) (P := P) (T := T) (f := upd f' r (nI x)) (q := q') hR hB hb0 (by omega) (fun j j1 j2 => by
      obtain ⟨y0, _, x2, y1, y2, y3⟩ := g1.2.2.2.1 j j1 j2
      exact ⟨y0, x2, y1, y2, y3⟩) g1.2.2.2.2 (fun j j1 j2 => by
      obtain ⟨y0, y9, x2, y1, y2, y3⟩ := g1.2.2.2.1 j j1 j2
      obtain ⟨j', k', x', z1, z2, z3, z4, z5, z6, z7, z8⟩ := g1.2.2.1 (ρ' j) y0 y9
      have := g1.2.2.2.2 j' j z1 z2 j1 j2 z3
      subst this
      exact ⟨k', x', z4, z5, z6, by rw [upd_n (hfj j' j1 j2)]; exact z7, z8⟩) g1.2.1 k r x c h a (mSz c R) r3 r1 r4 r5 (upd_s _ _ _) r6 r2 hinv hnb (fun j j1 j2 => ⟨hfj j j1 (by omega), rfl⟩) (fun r' hr' _ => hok.1 r' hr') hok.2 rfl FU (by unfold FU; omega)
    refine ⟨true, h', a', upd f' r (nI x), q', c', T, ?_, w2, w3, w4⟩
    show mbv (md_passesOn (mq ν h a (upd f' r (nI x)) q') (nI r)) _ = _
    unfold md_passesOn md_passesOn_l2
    rw [w1, mbv_s, mbv_s]
end
theorem m_paired {ν : Mm} (g : Good ν) (x : Int32) : ∃ c T h a f q, md_paired ν (asL x) = some (nI (mSz c (nR ν)), mq ν h a f q) ∧ mInv (wF ν) (fun z => decide (z < nB ν) && tb x z) (nR ν) c T := by
  have hR := g_R g
  have hB := g_B g
  unfold md_paired
  have l2 : md_paired_l2 ν (asL x) 0 = some (mq ν (fun r => if r < nR ν then -1 else ν 51 r) (ν 52) (ν 53) (ν 54)) := by
    unfold md_paired_l2
    have key := seq_loop (f := fun z : Int32 × Mm => md_paired_b2 z.2 (asL x) z.1) (fun i => (nI i, mq ν (fun r => if r < i then -1 else ν 51 r) (ν 52) (ν 53) (ν 54))) (nR ν) _ (fun i hi => by
      show md_paired_b2 (mq ν (fun r => if r < i then -1 else ν 51 r) (ν 52) (ν 53) (ν 54)) (asL x) (nI i) = _
      unfold md_paired_b2
      rw [show mq ν (fun r => if r < i then -1 else ν 51 r) (ν 52) (ν 53) (ν 54) 0 3 = nI (nR ν) from hR.1, if_neg (nI_ge hi (by omega)), mwr_nI (by omega) (by decide), mq_51, nI_1]
      congr 3
      congr 1
      funext j
      by_cases e : j = i
      · subst e; rw [upd_s, if_pos (by omega)]
      · rw [upd_n e]
        by_cases c : j < i
        · rw [if_pos c, if_pos (by omega)]
        · rw [if_neg c, if_neg (by omega)]) (by
      show md_paired_b2 (mq ν (fun r => if r < nR ν then -1 else ν 51 r) (ν 52) (ν 53) (ν 54)) (asL x) (nI (nR ν)) = _
      unfold md_paired_b2
      rw [show mq ν (fun r => if r < nR ν then -1 else ν 51 r) (ν 52) (ν 53) (ν 54) 0 3 = nI (nR ν) from hR.1, if_pos (nI_le (Nat.le_refl _) (by omega))]) (nR ν) 0 FU (by omega) (by unfold FU; omega)
    have e0 : (fun r => if r < 0 then (-1 : Int32) else ν 51 r) = ν 51 := by funext j; exact if_neg (Nat.not_lt_zero j)
    have key' : miter (fun z : Int32 × Mm => md_paired_b2 z.2 (asL x) z.1) FU (0, mq ν (fun r => if r < 0 then -1 else ν 51 r) (ν 52) (ν 53) (ν 54)) = some (mq ν (fun r => if r < nR ν then -1 else ν 51 r) (ν 52) (ν 53) (ν 54)) := key
    rw [e0, mq_self] at key'
    exact key'
  have l25 : ∀ h : Nat → Int32, md_paired_l25 (mq ν h (ν 52) (ν 53) (ν 54)) (asL x) 0 = some (mq ν h (fun b => if b < nB ν then -1 else ν 52 b) (ν 53) (ν 54)) := by
    intro h
    unfold md_paired_l25
    have key := seq_loop (f := fun z : Int32 × Mm => md_paired_b25 z.2 (asL x) z.1) (fun i => (nI i, mq ν h (fun b => if b < i then -1 else ν 52 b) (ν 53) (ν 54))) (nB ν) _ (fun i hi => by
      show md_paired_b25 (mq ν h (fun b => if b < i then -1 else ν 52 b) (ν 53) (ν 54)) (asL x) (nI i) = _
      unfold md_paired_b25
      rw [show mq ν h (fun b => if b < i then -1 else ν 52 b) (ν 53) (ν 54) 0 1 = nI (nB ν) from hB.1, if_neg (nI_ge hi (by omega)), mwr_nI (by omega) (by decide), mq_52, nI_1]
      congr 3
      congr 1
      funext j
      by_cases e : j = i
      · subst e; rw [upd_s, if_pos (by omega)]
      · rw [upd_n e]
        by_cases c : j < i
        · rw [if_pos c, if_pos (by omega)]
        · rw [if_neg c, if_neg (by omega)]) (by
      show md_paired_b25 (mq ν h (fun b => if b < nB ν then -1 else ν 52 b) (ν 53) (ν 54)) (asL x) (nI (nB ν)) = _
      unfold md_paired_b25
      rw [show mq ν h (fun b => if b < nB ν then -1 else ν 52 b) (ν 53) (ν 54) 0 1 = nI (nB ν) from hB.1, if_pos (nI_le (Nat.le_refl _) (by omega))]) (nB ν) 0 FU (by omega) (by unfold FU; omega)
    have e0 : (fun b => if b < 0 then (-1 : Int32) else ν 52 b) = ν 52 := by funext j; exact if_neg (Nat.not_lt_zero j)
    have key' : miter (fun z : Int32 × Mm => md_paired_b25 z.2 (asL x) z.1) FU (0, mq ν h (fun b => if b < 0 then -1 else ν 52 b) (ν 53) (ν 54)) = some (mq ν h (fun b => if b < nB ν then -1 else ν 52 b) (ν 53) (ν 54)) := key
    rw [e0] at key'
    exact key'
  rw [l2, mbv_s, l25, mbv_s]
  unfold md_paired_l51
  obtain ⟨e, h1, c, T, h, a, f, q, h2, h3⟩ := miter_cnt (f := fun z : Int32 × Int32 × Mm => md_paired_b51 z.2.2 (asL x) z.1 z.2.1) (fun i (s : Nat × Mm) => (nI s.1, nI i, s.2)) (nB ν) (fun i s => ∃ c T h a f q, s.1 = mSz c (nR ν) ∧ s.2 = mq ν h a f q ∧ mInv (wF ν) (fun z => decide (z < i) && tb x z) (nR ν) c T ∧ mqOK (nR ν) (nB ν) h a c) (fun e => ∃ c T h a f q, e = (nI (mSz c (nR ν)), mq ν h a f q) ∧ mInv (wF ν) (fun z => decide (z < nB ν) && tb x z) (nR ν) c T) (fun i s hi hI => by
      left
      obtain ⟨n, w⟩ := s
      obtain ⟨c, T, h, a, f, q, i1, i2, i3, i4⟩ := hI
      have i1' : n = mSz c (nR ν) := i1
      have i2' : w = mq ν h a f q := i2
      subst i2'
      subst i1'
      by_cases cb : tb x i = true
      · obtain ⟨ok, h', a', f', q', c', T', w1, w2, w3, w4⟩ := m_finds (f := f) (q := q) (b0 := i) hR.1 hR.2 hB.2 (fun z hz => by rw [Bool.and_eq_true, decide_eq_true_eq] at hz; omega) i4 i3 hi (by simp)
        refine ⟨(mSz c' (nR ν), mq ν h' a' f' q'), ?_, c', T', h', a', f', q', rfl, rfl, m_P w3 (fun z => ?_), w2⟩
        · show md_paired_b51 (mq ν h a f q) (asL x) (nI (mSz c (nR ν))) (nI i) = _
          unfold md_paired_b51
          rw [show mq ν h a f q 0 1 = nI (nB ν) from hB.1, if_neg (nI_ge hi (by omega)), if_pos ((asL_sbit x (by omega)).mpr cb), w1, mbm_s, nI_1 i, w4]
          cases ok
          · rfl
          · show some (Sum.inl (nI (mSz c (nR ν)) + 1, nI (i + 1), mq ν h' a' f' q')) = _
            rw [nI_1]; rfl
        · unfold pad
          by_cases ez : z = i
          · subst ez; simp [cb]
          · have : (z < i) ↔ (z < i + 1) := by omega
            simp [ez, this]
      · refine ⟨(mSz c (nR ν), mq ν h a f q), ?_, c, T, h, a, f, q, rfl, rfl, m_P i3 (fun z => ?_), i4⟩
        · show md_paired_b51 (mq ν h a f q) (asL x) (nI (mSz c (nR ν))) (nI i) = _
          unfold md_paired_b51
          rw [show mq ν h a f q 0 1 = nI (nB ν) from hB.1, if_neg (nI_ge hi (by omega)), if_neg (fun z => cb ((asL_sbit x (by omega)).mp z)), nI_1]
        · by_cases ez : z = i
          · subst ez; simp [cb]
          · have : (z < i) ↔ (z < i + 1) := by omega
            simp [this]) (fun s hI => by
      obtain ⟨n, w⟩ := s
      obtain ⟨c, T, h, a, f, q, i1, i2, i3, i4⟩ := hI
      have i1' : n = mSz c (nR ν) := i1
      have i2' : w = mq ν h a f q := i2
      subst i2'
      subst i1'
      refine ⟨(nI (mSz c (nR ν)), mq ν h a f q), ?_, c, T, h, a, f, q, rfl, i3⟩
      show md_paired_b51 (mq ν h a f q) (asL x) (nI (mSz c (nR ν))) (nI (nB ν)) = _
      unfold md_paired_b51
      rw [show mq ν h a f q 0 1 = nI (nB ν) from hB.1, if_pos (nI_le (Nat.le_refl _) (by omega))]) FU 0 (0, mq ν (fun r => if r < nR ν then -1 else ν 51 r) (fun b => if b < nB ν then -1 else ν 52 b) (ν 53) (ν 54)) (by omega) (by unfold FU; omega) ⟨fun _ => none, fun _ => false, _, _, _, _, by
      show 0 = mSz (fun _ => none) (nR ν)
      exact (cn_zero (fun _ _ => rfl)).symm, rfl, m_P m_none (fun z => by simp), fun r hr => if_pos hr, fun b hb => ⟨fun r e => (nomatch e), fun _ => if_pos hb⟩⟩
  have h1' : miter (fun z : Int32 × Int32 × Mm => md_paired_b51 z.2.2 (asL x) z.1 z.2.1) FU (0, 0, mq ν (fun r => if r < nR ν then -1 else ν 51 r) (fun b => if b < nB ν then -1 else ν 52 b) (ν 53) (ν 54)) = some e := h1
  rw [h1', mbv_s, h2]
  exact ⟨c, T, h, a, f, q, rfl, h3⟩
