/-! reading a test: the reference's loop -/
def ol (x : Option Nat) : Nat := match x with
  | none => 0
  | some _ => 1
def cAft (G : Nat) (μ21 : Mm) : Option (Mm ⊕ (Mm ⊕ Mm ⊕ Mm ⊕ Mm)) := msum2 (miter (fun q => md_readsCondition_b92 q) G μ21) (fun μ34 => some (.inr (.inr (.inr (.inl μ34))))) (fun μ35 => mbv (md_here μ35) <| fun x36 => if x36 = 38 then md_readsCondition_j180 μ35 else mbv (md_here μ35) <| fun x56 => if x56 = 124 then md_readsCondition_j180 μ35 else some (.inr (.inr (.inr (.inr μ35)))))
def cH (F : Nat) (μ : Mm) : Option (Mm ⊕ Mm ⊕ Mm ⊕ Mm) := miter (fun q => md_readsCondition_b40 q) F μ
def cA (G F : Nat) (μ : Mm) : Option (Mm ⊕ Mm ⊕ Mm ⊕ Mm) := match cAft G μ with
  | none => none
  | some (.inl q) => cH F q
  | some (.inr e) => some e
def cE (J G F : Nat) (μ : Mm) : Option (Mm ⊕ Mm ⊕ Mm ⊕ Mm) := mbv (miter (fun q => md_endsPiece_b0 q) J μ) fun u => cA G F u
def cFin (r : Option (Mm ⊕ Mm ⊕ Mm ⊕ Mm)) : Option (Bool × Mm) := msum4 r (fun μ67 => some (false, μ67)) (fun μ68 => some (false, μ68)) (fun μ69 => some (true, μ69)) (fun μ70 => mbm (md_wrong μ70 1 (μ70 0 39)) fun x71 μ72 => some (x71, μ72))
theorem cH_S {F : Nat} {μ : Mm} {r : Option (Mm ⊕ (Mm ⊕ Mm ⊕ Mm ⊕ Mm))} (h : md_readsCondition_b40 μ = r) : cH (F + 1) μ = match r with
  | none => none
  | some (.inl q) => cH F q
  | some (.inr e) => some e := by
  unfold cH
  simp only [miter, h]
  rcases r with _ | q | e <;> rfl
section
variable {ν μ : Mm} {N : Nat} {sg : Nat → Int32} {f nb : Int32} {cd wa : Nat → Int32}
theorem pdg_no {wa : Nat → Int32} {w ad mu : Nat} (h : pdg wa w ad mu) : ∀ j, w ≤ j → j < w + (pl ad).length + (pl mu).length → wa j / 1048576 ≠ 14 := by
  intro j j1 j2
  obtain ⟨h1, h2⟩ := h
  have key : ∀ m : Nat, m ≤ 6 → wa j = nI (1048576 * m) → wa j / 1048576 ≠ 14 := by
    intro m hm e z
    rw [e, dvU (by omega), Nat.mul_div_cancel_left _ (by decide)] at z
    have := (nI_eq (b := 14) (by omega) (by decide)).mp z
    omega
  rcases h1 with rfl | ⟨h1, h1w⟩
  · rcases h2 with rfl | ⟨h2, h2w⟩
    · simp only [pl_0, List.length_nil] at j2; omega
    · rw [pl_n (show mu ≠ 0 by omega)] at j2
      simp only [pl_0, List.length_nil, List.length_cons] at j2
      have e : j = w := by omega
      subst e
      exact key mu (by omega) h2w
  · rw [pl_n (show ad ≠ 0 by omega)] at j2 h2
    rcases h2 with rfl | ⟨h2, h2w⟩
    · simp only [pl_0, List.length_nil, List.length_cons] at j2
      have e : j = w := by omega
      subst e
      exact key ad (by omega) h1w
    · rw [pl_n (show mu ≠ 0 by omega)] at j2
      simp only [List.length_nil, List.length_cons] at j2 h2w
      by_cases e : j = w
      · subst e; exact key ad (by omega) h1w
      · have e : j = w + (0 + 1) := by omega
        rw [← e] at h2w
        exact key mu (by omega) h2w
theorem sum_all (hX : txX μ N sg) (hM : txM ν N sg) {n a p s : Nat} (ha : a ≤ 6) (hn : 3 * (7 - a) ≤ n) (hs : s ≤ p) (hp : p ≤ N) : (∃ φ, (∀ f st va, xNo μ φ (vs_LawReading_rec n 3 (xM μ (nI p) f (nI s) st va) (nI a))) ∧ ∀ f w nb cd wa, noS (tpO wa w) → w ≤ p → mNo ν φ (md_readsSum (rM ν (nI p) f (nI a) (nI s) (nI w) nb cd wa))) ∨ ∃ q c, p < q ∧ q ≤ N ∧ c.length ≤ q - p ∧ smE (4 + 2 * (6 - a)) s c ∧ (∀ f st va, xOk μ f s st va q c (vs_LawReading_rec n 3 (xM μ (nI p) f (nI s) st va) (nI a))) ∧ ∀ f w nb cd wa, noS (tpO wa w) → w ≤ p → ∃ nb' cd' wa', md_readsSum (rM ν (nI p) f (nI a) (nI s) (nI w) nb cd wa) = some (true, rM ν (nI q) f (nI a) (nI (s + c.length)) (nI w) nb' cd' wa') ∧ (∀ i, i < s → cd' i = cd i) ∧ (∀ i, i < w → wa' i = wa i) ∧ AtL (fun k o => cd' k = enc o) s c := by
  have hN := hX.2.1
  have hFU : 1000 < FU := by unfold FU; omega
  rcases (lv_all hX hM n).2.2 a p s ha (by omega) hs hp with ⟨φ, k1, k2⟩ | ⟨q, c, q1, q2, q3, q4, q5, k1, k2⟩
  · left
    refine ⟨φ, k1, fun f w nb cd wa ht hw => ?_⟩
    rw [m_readsSum, rM_44]
    exact k2 f w w FU FU nb cd wa ht (Nat.le_refl _) hw (by omega) (by omega)
  · right
    refine ⟨q, c, q1, q2, q3, q5, k1, fun f w nb cd wa ht hw => ?_⟩
    obtain ⟨F', ad, mu, c0, nb', cd', wa', e1, e2, _, e4, e5, e6, e7, e8⟩ := k2 f w w FU FU nb cd wa ht (Nat.le_refl _) hw (by omega) (by omega)
    have hlen : c.length = c0.length + (pl mu ++ pl ad).length := by rw [e5, List.length_append]
    have hl : (pl ad).length + (pl mu).length ≤ 2 := by
      unfold pl
      split <;> split <;> simp
    have hos : ∀ k : Int32, md_hasOpenSum (rM ν (nI q) f (nI a) k (nI (w + (pl ad).length + (pl mu).length)) nb' cd' wa') (nI w) = some false := fun k => m_hosN (by omega) (by omega) (pdg_no e4)
    obtain ⟨F2, rfl⟩ : ∃ F2, F' = F2 + 1 := ⟨F' - 1, by omega⟩
    obtain ⟨cd2, y1, y2, y3⟩ := m_close1 (ν := ν) (p := nI q) (f := f) (o := nI a) (nb := nb') (cd := cd') (s := s + c0.length) (by omega) (by omega) (by rw [tpO_cong e7]; exact ht) e4
    refine ⟨nb', cd2, wa', ?_, fun i hi => by rw [y2 i (by omega), e6 i hi], e7, ?_⟩
    · rw [m_readsSum, rM_44, e2, miter_r (b14_end hM q2 q4 (Or.inr (hos _)))]
      show md_readsSum_j138 _ (nI w) = _
      unfold md_readsSum_j138
      rw [hos, mbv_s, ifb_f', y1, mbv_s, show s + c0.length + (pl mu ++ pl ad).length = s + c.length by omega]
    · rw [e5]
      refine AtL_app.mpr ⟨AtL_mono (fun k o h1 h2 h3 => ?_) e8, y3⟩
      show cd2 k = enc o
      rw [y2 k h2]; exact h3
theorem ep_pop {J a s w : Nat} {p : Int32} (hs : s < 220) (hw : w + 1 ≤ 220) (ht : wa w = nI (1048576 * 10)) : miter (fun q => md_endsPiece_b0 q) (J + 1) (rM ν p f (nI (a + 1)) (nI s) (nI (w + 1)) nb cd wa) = miter (fun q => md_endsPiece_b0 q) J (rM ν p f (nI a) (nI (s + 1)) (nI w) nb (upd cd s (enc (10, 0))) wa) := by
  refine miter_l ?_ rfl
  show md_endsPiece_b0 (rM ν p f (nI (a + 1)) (nI s) (nI (w + 1)) nb cd wa) = _
  unfold md_endsPiece_b0
  rw [m_top hw, mbv_s, tpO_op ht (by decide), if_pos (show nI 10 = (10 : Int32) from rfl), m_says hs, mbv_s, mst_s, rM_44, nI_pred, rMs44, mst_s, rM_42, nI_pred, rMs42]
  rfl
theorem ep_stop {J w : Nat} {p o k : Int32} (hw : w ≤ 220) (ht : tpO wa w ≠ 10) : miter (fun q => md_endsPiece_b0 q) (J + 1) (rM ν p f o k (nI w) nb cd wa) = some (rM ν p f o k (nI w) nb cd wa) := by
  refine miter_r ?_
  show md_endsPiece_b0 (rM ν p f o k (nI w) nb cd wa) = _
  unfold md_endsPiece_b0
  rw [m_top hw, mbv_s, if_neg ht]
theorem la_j {op j e w : Nat} {p o fl : Int32} (he : e < 1048576) (hj : j < 220) (hop : op ≤ 12) (hw : w + 1 ≤ 220) (ht : wa w = nI (1048576 * op + j)) (hc : cd j = enc (op, 0)) : md_lands_j22 (rM ν p f o (nI e) (nI (w + 1)) nb cd wa) fl = some (.inl (rM ν p f o (nI e) (nI w) nb (upd cd j (enc (op, e))) wa)) := by
  unfold md_lands_j22
  have e1 : wa w / 1048576 = nI op := by
    rw [ht, dvU (by omega), show (1048576 * op + j) / 1048576 = op by omega]
  have e2 : wa w - wa w / 1048576 * 1048576 = nI j := by
    rw [e1, ht, show (1048576 : Int32) = nI 1048576 from rfl, pk_mul, show 1048576 * op + j = j + op * 1048576 by omega, ← nI_add, Int32.add_sub_cancel]
  have e3 : cd j / 1048576 = nI op := by
    rw [hc]
    show nI (1048576 * op + 0) / 1048576 = nI op
    rw [dvU (by omega), show (1048576 * op + 0) / 1048576 = op by omega]
  have e4 : (1048576 : Int32) * nI op + nI e = enc (op, e) := by rw [enc_w, nI_add]; rfl
  rw [rM_44, nI_pred, mrd_nI (by omega) (by decide), show rM ν p f o (nI e) (nI (w + 1)) nb cd wa 32 w = wa w from rfl, e2, mrd_nI hj (by decide), show rM ν p f o (nI e) (nI (w + 1)) nb cd wa 31 j = cd j from rfl, mwr_nI hj (by decide), e3, rM_43, e4, rMs31, mst_s, rM_44, nI_pred, rMs44]
theorem tpO_j {w op j : Nat} (h : wa w = nI (1048576 * op + j)) (hj : j < 1048576) (ho : op ≤ 14) : tpO wa (w + 1) = nI op := by
  rw [tpO_S, h, dvU (by omega), show (1048576 * op + j) / 1048576 = op by omega]
theorem la_pop {op j e w F : Nat} {p o fl : Int32} (he : e < 1048576) (hj : j < 220) (hop : op = 11 ∨ op = 12) (hf : op = 11 ∨ fl = 1) (hw : w + 1 ≤ 220) (ht : wa w = nI (1048576 * op + j)) (hc : cd j = enc (op, 0)) : miter (fun q => md_lands_b0 q fl) (F + 1) (rM ν p f o (nI e) (nI (w + 1)) nb cd wa) = miter (fun q => md_lands_b0 q fl) F (rM ν p f o (nI e) (nI w) nb (upd cd j (enc (op, e))) wa) := by
  refine miter_l ?_ rfl
  show md_lands_b0 (rM ν p f o (nI e) (nI (w + 1)) nb cd wa) fl = _
  unfold md_lands_b0
  rw [m_top hw, tpO_j ht (by omega) (by omega)]
  simp only [mbv_s]
  rcases hop with rfl | rfl
  · rw [if_pos (show nI 11 = (11 : Int32) from rfl), la_j he hj (by decide) hw ht hc]
  · rw [if_neg (show ¬ (nI 12 = (11 : Int32)) by decide)]
    rcases hf with hf | hf
    · exact absurd hf (by decide)
    · rw [if_neg (show ¬ (fl = 0) by rw [hf]; decide), if_pos (show nI 12 = (12 : Int32) from rfl), la_j he hj (by decide) hw ht hc]
theorem la_stop {w F : Nat} {p o k fl : Int32} (hw : w ≤ 220) (ht : tpO wa w ≠ 11) (hf : fl = 0 ∨ tpO wa w ≠ 12) : miter (fun q => md_lands_b0 q fl) (F + 1) (rM ν p f o k (nI w) nb cd wa) = some (rM ν p f o k (nI w) nb cd wa) := by
  refine miter_r ?_
  show md_lands_b0 (rM ν p f o k (nI w) nb cd wa) fl = _
  unfold md_lands_b0
  rw [m_top hw]
  simp only [mbv_s]
  rw [if_neg ht]
  by_cases c : fl = 0
  · rw [if_pos c]
  · rw [if_neg c]
    rcases hf with hf | hf
    · exact absurd hf c
    · rw [if_neg hf]
end
/-- jumps that wait for their aim -/
def pdj (wa cd : Nat → Int32) (s w e : Nat) (ji jn : Option Nat) : Prop := (∀ j, ji = some j → wa w = nI (1048576 * 12 + j) ∧ cd j = enc (12, 0) ∧ s ≤ j ∧ j < e) ∧ ∀ j, jn = some j → wa (w + ol ji) = nI (1048576 * 11 + j) ∧ cd j = enc (11, 0) ∧ s ≤ j ∧ j < e
def atJ (cd : Nat → Int32) (e : Nat) (ji jn : Option Nat) (k : Nat) (o : Nat × Nat) : Prop := (ji ≠ some k → jn ≠ some k → cd k = enc o) ∧ (ji = some k → o = (12, e)) ∧ (jn = some k → o = (11, e))
section
variable {ν μ : Mm} {N : Nat} {sg : Nat → Int32} {f nb p o : Int32} {cd wa : Nat → Int32}
theorem atJ_0 {cd : Nat → Int32} {e s : Nat} {c : List (Nat × Nat)} (h : AtL (fun k o => cd k = enc o) s c) : AtL (atJ cd e none none) s c := AtL_mono (fun k o _ _ h3 => ⟨fun _ _ => h3, fun z => (nomatch z), fun z => (nomatch z)⟩) h
theorem m_lands1 {s w e : Nat} {c : List (Nat × Nat)} {ji jn : Option Nat} (he : e ≤ 200) (hw : w + 2 ≤ 220) (ht : tpO wa w ≠ 11 ∧ tpO wa w ≠ 12) (hp : pdj wa cd s w e ji jn) (hat : AtL (atJ cd e ji jn) s c) : ∃ cd', md_lands (rM ν p f o (nI e) (nI (w + ol ji + ol jn)) nb cd wa) 1 = some (rM ν p f o (nI e) (nI w) nb cd' wa) ∧ (∀ i, i < s → cd' i = cd i) ∧ AtL (fun k o => cd' k = enc o) s c := by
  obtain ⟨h1, h2⟩ := hp
  unfold md_lands md_lands_l0
  rw [show FU = 1048573 + 1 + 1 + 1 from rfl]
  cases ji with
  | none =>
    cases jn with
    | none =>
      refine ⟨cd, ?_, fun _ _ => rfl, AtL_mono (fun k o' _ _ h3 => h3.1 (fun z => (nomatch z)) (fun z => (nomatch z))) hat⟩
      show mbv (miter (fun q => md_lands_b0 q 1) (1048573 + 1 + 1 + 1) (rM ν p f o (nI e) (nI w) nb cd wa)) _ = _
      rw [la_stop (by omega) ht.1 (Or.inr ht.2), mbv_s]
    | some j =>
      obtain ⟨b1, b2, b3, b4⟩ := h2 j rfl
      have b1 : wa w = nI (1048576 * 11 + j) := b1
      refine ⟨upd cd j (enc (11, e)), ?_, fun i hi => upd_n (by omega), AtL_mono (fun k o' _ _ h3 => ?_) hat⟩
      · show mbv (miter (fun q => md_lands_b0 q 1) (1048573 + 1 + 1 + 1) (rM ν p f o (nI e) (nI (w + 1)) nb cd wa)) _ = _
        rw [la_pop (by omega) (by omega) (Or.inl rfl) (Or.inl rfl) (by omega) b1 b2, la_stop (by omega) ht.1 (Or.inr ht.2), mbv_s]
      · show upd cd j (enc (11, e)) k = enc o'
        by_cases ek : k = j
        · subst ek; rw [upd_s, h3.2.2 rfl]
        · rw [upd_n ek]; exact h3.1 (fun z => (nomatch z)) (fun z => ek (Option.some.inj z).symm)
  | some i0 =>
    obtain ⟨a1, a2, a3, a4⟩ := h1 i0 rfl
    cases jn with
    | none =>
      refine ⟨upd cd i0 (enc (12, e)), ?_, fun i hi => upd_n (by omega), AtL_mono (fun k o' _ _ h3 => ?_) hat⟩
      · show mbv (miter (fun q => md_lands_b0 q 1) (1048573 + 1 + 1 + 1) (rM ν p f o (nI e) (nI (w + 1)) nb cd wa)) _ = _
        rw [la_pop (by omega) (by omega) (Or.inr rfl) (Or.inr rfl) (by omega) a1 a2, la_stop (by omega) ht.1 (Or.inr ht.2), mbv_s]
      · show upd cd i0 (enc (12, e)) k = enc o'
        by_cases ek : k = i0
        · subst ek; rw [upd_s, h3.2.1 rfl]
        · rw [upd_n ek]; exact h3.1 (fun z => ek (Option.some.inj z).symm) (fun z => (nomatch z))
    | some j =>
      obtain ⟨b1, b2, b3, b4⟩ := h2 j rfl
      have b1 : wa (w + 1) = nI (1048576 * 11 + j) := b1
      have hne : i0 ≠ j := fun z => by
        rw [z, b2] at a2
        exact absurd a2 (by decide)
      refine ⟨upd (upd cd j (enc (11, e))) i0 (enc (12, e)), ?_, fun i hi => by rw [upd_n (by omega), upd_n (by omega)], AtL_mono (fun k o' _ _ h3 => ?_) hat⟩
      · show mbv (miter (fun q => md_lands_b0 q 1) (1048573 + 1 + 1 + 1) (rM ν p f o (nI e) (nI (w + 1 + 1)) nb cd wa)) _ = _
        rw [la_pop (by omega) (by omega) (Or.inl rfl) (Or.inl rfl) (by omega) b1 b2, la_pop (by omega) (by omega) (Or.inr rfl) (Or.inr rfl) (by omega) a1 (by rw [upd_n hne]; exact a2), la_stop (by omega) ht.1 (Or.inr ht.2), mbv_s]
      · show upd (upd cd j (enc (11, e))) i0 (enc (12, e)) k = enc o'
        by_cases ek : k = i0
        · subst ek; rw [upd_s, h3.2.1 rfl]
        · rw [upd_n ek]
          by_cases ej : k = j
          · subst ej; rw [upd_s, h3.2.2 rfl]
          · rw [upd_n ej]; exact h3.1 (fun z => ek (Option.some.inj z).symm) (fun z => ej (Option.some.inj z).symm)
theorem m_lands0 {s w e : Nat} {c : List (Nat × Nat)} {ji jn : Option Nat} (hP : ji = none) (he : e ≤ 200) (hw : w + 2 ≤ 220) (ht : tpO wa w ≠ 11) (hp : pdj wa cd s w e ji jn) (hat : AtL (atJ cd e ji jn) s c) : ∃ cd', md_lands (rM ν p f o (nI e) (nI (w + ol ji + ol jn)) nb cd wa) 0 = some (rM ν p f o (nI e) (nI w) nb cd' wa) ∧ (∀ i, i < s → cd' i = cd i) ∧ AtL (fun k o => cd' k = enc o) s c := by
  subst hP
  obtain ⟨h1, h2⟩ := hp
  unfold md_lands md_lands_l0
  rw [show FU = 1048573 + 1 + 1 + 1 from rfl]
  cases jn with
  | none =>
    refine ⟨cd, ?_, fun _ _ => rfl, AtL_mono (fun k o' _ _ h3 => h3.1 (fun z => (nomatch z)) (fun z => (nomatch z))) hat⟩
    show mbv (miter (fun q => md_lands_b0 q 0) (1048573 + 1 + 1 + 1) (rM ν p f o (nI e) (nI w) nb cd wa)) _ = _
    rw [la_stop (by omega) ht (Or.inl rfl), mbv_s]
  | some j =>
    obtain ⟨b1, b2, b3, b4⟩ := h2 j rfl
    have b1 : wa w = nI (1048576 * 11 + j) := b1
    refine ⟨upd cd j (enc (11, e)), ?_, fun i hi => upd_n (by omega), AtL_mono (fun k o' _ _ h3 => ?_) hat⟩
    · show mbv (miter (fun q => md_lands_b0 q 0) (1048573 + 1 + 1 + 1) (rM ν p f o (nI e) (nI (w + 1)) nb cd wa)) _ = _
      rw [la_pop (by omega) (by omega) (Or.inl rfl) (Or.inl rfl) (by omega) b1 b2, la_stop (by omega) ht (Or.inl rfl), mbv_s]
    · show upd cd j (enc (11, e)) k = enc o'
      by_cases ek : k = j
      · subst ek; rw [upd_s, h3.2.2 rfl]
      · rw [upd_n ek]; exact h3.1 (fun z => (nomatch z)) (fun z => ek (Option.some.inj z).symm)
theorem m_jumps {q e w op : Nat} {a1 : Int32} (ha : a1 = nI op) (hop : op ≤ 12) (he : e < 220) (hw : w < 220) : md_jumps (rM ν (nI q) f o (nI e) (nI w) nb cd wa) a1 = some (rM ν (nI (q + 1)) f o (nI (e + 1)) (nI (w + 1)) nb (upd cd e (enc (op, 0))) (upd wa w (nI (1048576 * op + e)))) := by
  subst ha
  unfold md_jumps
  rw [rM_44, rM_43, mwr_nI hw (by decide), rMs32, mst_s, rM_44, rMs44, m_says he, mbv_s, mst_s, rM_39, rMs39, nI_1, nI_1, enc_0, enc_w, nI_add]
/-- the reference behind a piece -/
theorem cAft_out (hM : txM ν N sg) {q G : Nat} {k w : Int32} (hq : q ≤ N) (h : ¬ sg q = 41) : cAft (G + 1) (rM ν (nI q) f o k w nb cd wa) = if sg q = 38 then md_readsCondition_j180 (rM ν (nI q) f o k w nb cd wa) else if sg q = 124 then md_readsCondition_j180 (rM ν (nI q) f o k w nb cd wa) else some (.inr (.inr (.inr (.inr (rM ν (nI q) f o k w nb cd wa))))) := by
  unfold cAft
  have e : miter (fun q => md_readsCondition_b92 q) (G + 1) (rM ν (nI q) f o k w nb cd wa) = some (.inr (rM ν (nI q) f o k w nb cd wa)) := by
    refine miter_r ?_
    show md_readsCondition_b92 (rM ν (nI q) f o k w nb cd wa) = _
    unfold md_readsCondition_b92
    rw [m_here hM hq, mbv_s, if_neg h]
  rw [e]
  show (mbv (md_here (rM ν (nI q) f o k w nb cd wa)) fun x36 => _) = _
  rw [m_here hM hq]
  simp only [mbv_s]
theorem cA_and (hM : txM ν N sg) {q s w e G F : Nat} {c : List (Nat × Nat)} {ji jn : Option Nat} (hP : ji = none) (hq : q ≤ N) (he : e ≤ 200) (hw : w + 2 ≤ 220) (h : sg q = 38) (ht : tpO wa w ≠ 11) (hp : pdj wa cd s w e ji jn) (hat : AtL (atJ cd e ji jn) s c) : ∃ cd', cA (G + 1) F (rM ν (nI q) f o (nI e) (nI (w + ol ji + ol jn)) nb cd wa) = cH F (rM ν (nI (q + 1)) f o (nI (e + 1)) (nI (w + 1)) nb (upd cd' e (enc (11, 0))) (upd wa w (nI (1048576 * 11 + e)))) ∧ (∀ i, i < s → cd' i = cd i) ∧ AtL (fun k o => cd' k = enc o) s c := by
  obtain ⟨cd', l1, l2, l3⟩ := m_lands0 (ν := ν) (p := nI q) (f := f) (o := o) (nb := nb) hP he hw ht hp hat
  refine ⟨cd', ?_, l2, l3⟩
  unfold cA
  have e1 : cAft (G + 1) (rM ν (nI q) f o (nI e) (nI (w + ol ji + ol jn)) nb cd wa) = some (.inl (rM ν (nI (q + 1)) f o (nI (e + 1)) (nI (w + 1)) nb (upd cd' e (enc (11, 0))) (upd wa w (nI (1048576 * 11 + e))))) := by
    rw [cAft_out hM hq (by rw [h]; decide), if_pos h]
    unfold md_readsCondition_j180
    rw [m_here hM hq, mbv_s, if_neg (show ¬ (sg q = 124) by rw [h]; decide), l1, mbv_s, m_here hM hq, mbv_s, if_pos h, m_jumps (op := 11) (a1 := 11) rfl (by decide) (by omega) (by omega), mbv_s]
  rw [e1]
theorem cA_or (hM : txM ν N sg) {q s w e G F : Nat} {c : List (Nat × Nat)} {ji jn : Option Nat} (hq : q ≤ N) (he : e ≤ 200) (hw : w + 2 ≤ 220) (h : sg q = 124) (ht : tpO wa w ≠ 11 ∧ tpO wa w ≠ 12) (hp : pdj wa cd s w e ji jn) (hat : AtL (atJ cd e ji jn) s c) : ∃ cd', cA (G + 1) F (rM ν (nI q) f o (nI e) (nI (w + ol ji + ol jn)) nb cd wa) = cH F (rM ν (nI (q + 1)) f o (nI (e + 1)) (nI (w + 1)) nb (upd cd' e (enc (12, 0))) (upd wa w (nI (1048576 * 12 + e)))) ∧ (∀ i, i < s → cd' i = cd i) ∧ AtL (fun k o => cd' k = enc o) s c := by
  obtain ⟨cd', l1, l2, l3⟩ := m_lands1 (ν := ν) (p := nI q) (f := f) (o := o) (nb := nb) he hw ht hp hat
  refine ⟨cd', ?_, l2, l3⟩
  unfold cA
  have e1 : cAft (G + 1) (rM ν (nI q) f o (nI e) (nI (w + ol ji + ol jn)) nb cd wa) = some (.inl (rM ν (nI (q + 1)) f o (nI (e + 1)) (nI (w + 1)) nb (upd cd' e (enc (12, 0))) (upd wa w (nI (1048576 * 12 + e))))) := by
    rw [cAft_out hM hq (by rw [h]; decide), if_neg (show ¬ (sg q = 38) by rw [h]; decide), if_pos h]
    unfold md_readsCondition_j180
    rw [m_here hM hq, mbv_s, if_pos h, l1, mbv_s, m_here hM hq, mbv_s, if_neg (show ¬ (sg q = 38) by rw [h]; decide), m_jumps (op := 12) (a1 := 12) rfl (by decide) (by omega) (by omega), mbv_s]
  rw [e1]
theorem cA_bad (hM : txM ν N sg) {q G F : Nat} {k w : Int32} (hq : q ≤ N) (h1 : ¬ sg q = 41) (h2 : ¬ sg q = 38) (h3 : ¬ sg q = 124) : mNo ν (1000 + q) (cFin (cA (G + 1) F (rM ν (nI q) f o k w nb cd wa))) := by
  unfold cA
  rw [cAft_out hM hq h1, if_neg h2, if_neg h3]
  show mNo ν (1000 + q) (mbm (md_wrong (rM ν (nI q) f o k w nb cd wa) 1 (nI q)) fun x71 μ72 => some (x71, μ72))
  rw [m_wrong, mbm_s, fltM 1 q 1 rfl]
  exact ⟨_, _, _, _, _, _, _, rfl⟩
theorem cA_par (hM : txM ν N sg) {q a s w e G F : Nat} {c : List (Nat × Nat)} {ji jn : Option Nat} (hq : q ≤ N) (he : e ≤ 200) (hw : w + 3 ≤ 220) (h1 : 1 ≤ w) (h : sg q = 41) (ht : tpO wa (w + 1) ≠ 11 ∧ tpO wa (w + 1) ≠ 12) (hp : pdj wa cd s (w + 1) e ji jn) (hat : AtL (atJ cd e ji jn) s c) : ∃ cd', cA (G + 1) F (rM ν (nI q) f (nI (a + 1)) (nI e) (nI (w + 1 + ol ji + ol jn)) nb cd wa) = cE FU G F (rM ν (nI (q + 1)) f (nI a) (nI e) (nI w) nb cd' wa) ∧ (∀ i, i < s → cd' i = cd i) ∧ AtL (fun k o => cd' k = enc o) s c := by
  obtain ⟨cd', l1, l2, l3⟩ := m_lands1 (ν := ν) (p := nI q) (f := f) (o := nI (a + 1)) (nb := nb) he (by omega) ht hp hat
  refine ⟨cd', ?_, l2, l3⟩
  have e1 : md_readsCondition_b92 (rM ν (nI q) f (nI (a + 1)) (nI e) (nI (w + 1 + ol ji + ol jn)) nb cd wa) = mbv (md_endsPiece (rM ν (nI (q + 1)) f (nI a) (nI e) (nI w) nb cd' wa)) fun μ32 => some (.inl μ32) := by
    unfold md_readsCondition_b92
    rw [m_here hM hq, mbv_s, if_pos h, l1, mbv_s, mst_s, rM_44, nI_pred, rMs44, mst_s, rM_42, nI_pred, rMs42, mst_s, rM_39, rMs39, nI_1, rM_44, if_neg (nI_ne0 (by omega) (by omega))]
  unfold cE cA cAft
  unfold md_endsPiece md_endsPiece_l0 at e1
  cases r : miter (fun q => md_endsPiece_b0 q) FU (rM ν (nI (q + 1)) f (nI a) (nI e) (nI w) nb cd' wa) with
  | none =>
    rw [r] at e1
    have e2 : miter (fun q => md_readsCondition_b92 q) (G + 1) (rM ν (nI q) f (nI (a + 1)) (nI e) (nI (w + 1 + ol ji + ol jn)) nb cd wa) = none := by
      simp only [miter, e1]
      rfl
    rw [e2]
    rfl
  | some u =>
    rw [r, mbv_s, mbv_s] at e1
    have e2 : miter (fun q => md_readsCondition_b92 q) (G + 1) (rM ν (nI q) f (nI (a + 1)) (nI e) (nI (w + 1 + ol ji + ol jn)) nb cd wa) = miter (fun q => md_readsCondition_b92 q) G u := miter_l e1 rfl
    rw [e2, mbv_s]
theorem cA_fin (hM : txM ν N sg) {q a s e G F : Nat} {c : List (Nat × Nat)} {ji jn : Option Nat} (hq : q ≤ N) (he : e ≤ 200) (h : sg q = 41) (ht : tpO wa 1 ≠ 11 ∧ tpO wa 1 ≠ 12) (hp : pdj wa cd s 1 e ji jn) (hat : AtL (atJ cd e ji jn) s c) : ∃ cd', cFin (cA (G + 1) F (rM ν (nI q) f (nI (a + 1)) (nI e) (nI (1 + ol ji + ol jn)) nb cd wa)) = some (true, rM ν (nI (q + 1)) f (nI a) (nI e) (nI 0) nb cd' wa) ∧ (∀ i, i < s → cd' i = cd i) ∧ AtL (fun k o => cd' k = enc o) s c := by
  obtain ⟨cd', l1, l2, l3⟩ := m_lands1 (ν := ν) (p := nI q) (f := f) (o := nI (a + 1)) (nb := nb) (w := 1) he (by omega) ht hp hat
  refine ⟨cd', ?_, l2, l3⟩
  have e1 : md_readsCondition_b92 (rM ν (nI q) f (nI (a + 1)) (nI e) (nI (1 + ol ji + ol jn)) nb cd wa) = some (.inr (.inl (rM ν (nI (q + 1)) f (nI a) (nI e) (nI 0) nb cd' wa))) := by
    unfold md_readsCondition_b92
    rw [m_here hM hq, mbv_s, if_pos h, l1, mbv_s, mst_s, rM_44, nI_pred 0, rMs44, mst_s, rM_42, nI_pred, rMs42, mst_s, rM_39, rMs39, nI_1, rM_44, if_pos (show nI 0 = 0 from rfl)]
  unfold cA cAft
  have e2 : miter (fun q => md_readsCondition_b92 q) (G + 1) (rM ν (nI q) f (nI (a + 1)) (nI e) (nI (1 + ol ji + ol jn)) nb cd wa) = some (.inl (rM ν (nI (q + 1)) f (nI a) (nI e) (nI 0) nb cd' wa)) := miter_r e1
  rw [e2]
  rfl
end
