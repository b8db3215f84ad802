/-! the tokens of a text: kinds, runs, codes -/
def chK (c : Int) : Int := if c = 32 ∨ c = 10 then 3 else if 97 ≤ c ∧ c ≤ 122 then 0 else if 48 ≤ c ∧ c ≤ 57 then 1 else 2
theorem chK_0 {c : Int} : chK c = 0 ↔ 97 ≤ c ∧ c ≤ 122 := by unfold chK; (repeat' split) <;> omega
theorem chK_1 {c : Int} : chK c = 1 ↔ 48 ≤ c ∧ c ≤ 57 := by unfold chK; (repeat' split) <;> omega
theorem chK_3 {c : Int} : chK c = 3 ↔ (c = 32 ∨ c = 10) := by unfold chK; (repeat' split) <;> omega
theorem chK_b (c : Int) : chK c = 0 ∨ chK c = 1 ∨ chK c = 2 ∨ chK c = 3 := by unfold chK; (repeat' split) <;> omega
def kdN (f : Nat → Int32) (n p : Nat) : Int := if p < n then chK (f p).toInt else 3
theorem kd_in {f : Nat → Int32} {n p : Nat} (h : p < n) : kdN f n p = chK (f p).toInt := if_pos h
theorem kd_out {f : Nat → Int32} {n p : Nat} (h : ¬ p < n) : kdN f n p = 3 := if_neg h
def rnF (f : Nat → Int32) (n : Nat) (k : Int) : Nat → Nat → Nat
  | 0, p => p
  | m + 1, p => if p < n ∧ kdN f n p = k then rnF f n k m (p + 1) else p
def rnN (f : Nat → Int32) (n : Nat) (k : Int) (p : Nat) : Nat := rnF f n k (n - p) p
theorem rnF_eq {f : Nat → Int32} {n : Nat} {k : Int} : ∀ m p q : Nat, p ≤ q → q ≤ p + m → (∀ j, p ≤ j → j < q → j < n ∧ kdN f n j = k) → (q = p + m ∨ ¬ (q < n ∧ kdN f n q = k)) → rnF f n k m p = q := by
  intro m
  induction m with
  | zero => intro p q h1 h2 _ _; show p = q; omega
  | succ m ih =>
    intro p q h1 h2 h3 h4
    show (if p < n ∧ kdN f n p = k then rnF f n k m (p + 1) else p) = q
    by_cases c : p < n ∧ kdN f n p = k
    · rw [if_pos c]
      have hp : ¬ p = q := by
        intro e
        rcases h4 with h4 | h4
        · omega
        · exact h4 (e ▸ c)
      exact ih (p + 1) q (by omega) (by omega) (fun j a b => h3 j (by omega) b) (by rcases h4 with h4 | h4; exact Or.inl (by omega); exact Or.inr h4)
    · rw [if_neg c]
      by_cases e : p = q
      · exact e
      · exact absurd (h3 p (by omega) (by omega)) c
theorem rn_eq {f : Nat → Int32} {n p q : Nat} {k : Int} (hp : p ≤ q) (hq : q ≤ n) (h : ∀ j, p ≤ j → j < q → kdN f n j = k) (he : q = n ∨ ¬ kdN f n q = k) : rnN f n k p = q := by
  refine rnF_eq (n - p) p q hp (by omega) (fun j a b => ⟨by omega, h j a b⟩) ?_
  rcases he with he | he
  · exact Or.inl (by omega)
  · exact Or.inr (fun z => he z.2)
theorem rnF_sp {f : Nat → Int32} {n : Nat} {k : Int} : ∀ m p : Nat, p + m = n → p ≤ rnF f n k m p ∧ rnF f n k m p ≤ n ∧ (∀ j, p ≤ j → j < rnF f n k m p → kdN f n j = k) ∧ (rnF f n k m p = n ∨ ¬ kdN f n (rnF f n k m p) = k) := by
  intro m
  induction m with
  | zero => intro p h; refine ⟨Nat.le_refl _, ?_, ?_, Or.inl ?_⟩ <;> show _ <;> simp only [rnF] <;> omega
  | succ m ih =>
    intro p h
    have e : rnF f n k (m + 1) p = if p < n ∧ kdN f n p = k then rnF f n k m (p + 1) else p := rfl
    by_cases c : p < n ∧ kdN f n p = k
    · rw [e, if_pos c]
      obtain ⟨a1, a2, a3, a4⟩ := ih (p + 1) (by omega)
      refine ⟨by omega, a2, fun j b1 b2 => ?_, a4⟩
      by_cases z : j = p
      · rw [z]; exact c.2
      · exact a3 j (by omega) b2
    · rw [e, if_neg c]
      refine ⟨Nat.le_refl _, by omega, fun j b1 b2 => by omega, Or.inr (fun z => c ⟨by omega, z⟩)⟩
theorem rn_sp {f : Nat → Int32} {n p : Nat} {k : Int} (h : p ≤ n) : p ≤ rnN f n k p ∧ rnN f n k p ≤ n ∧ (∀ j, p ≤ j → j < rnN f n k p → kdN f n j = k) ∧ (rnN f n k p = n ∨ ¬ kdN f n (rnN f n k p) = k) := rnF_sp (n - p) p (by omega)
def nbN (f : Nat → Int32) (n p : Nat) : Nat := rnN f n 3 p
def enN (f : Nat → Int32) (n p : Nat) : Nat := if kdN f n p = 2 then p + 1 else rnN f n (kdN f n p) p
def nxN (f : Nat → Int32) (n p : Nat) : Nat := nbN f n (enN f n p)
def bgN (f : Nat → Int32) (n p : Nat) : Bool := decide (kdN f n p = 2 ∨ (¬ kdN f n p = 3 ∧ (p = 0 ∨ ¬ kdN f n (p - 1) = kdN f n p)))
def gdN (f : Nat → Int32) (n p : Nat) : Prop := p ≤ n ∧ (p < n → bgN f n p = true)
theorem bg_t {f : Nat → Int32} {n p : Nat} (h : bgN f n p = true) : p < n ∧ ¬ kdN f n p = 3 := by
  have q := of_decide_eq_true h
  by_cases z : p < n
  · refine ⟨z, ?_⟩
    rcases q with q | q
    · omega
    · exact q.1
  · have := kd_out (f := f) z
    rcases q with q | q
    · omega
    · exact absurd this q.1
theorem nb_sp {f : Nat → Int32} {n p : Nat} (h : p ≤ n) : p ≤ nbN f n p ∧ nbN f n p ≤ n ∧ (∀ j, p ≤ j → j < nbN f n p → kdN f n j = 3) ∧ (nbN f n p < n → ¬ kdN f n (nbN f n p) = 3) := by
  obtain ⟨a1, a2, a3, a4⟩ := rn_sp (f := f) (k := 3) h
  refine ⟨a1, a2, a3, fun z => ?_⟩
  rcases a4 with a4 | a4
  · unfold nbN at z; omega
  · exact a4
theorem gd_0 {f : Nat → Int32} {n : Nat} : gdN f n (nbN f n 0) := by
  obtain ⟨a1, a2, a3, a4⟩ := nb_sp (f := f) (n := n) (Nat.zero_le n)
  refine ⟨a2, fun z => decide_eq_true (Or.inr ⟨a4 z, ?_⟩)⟩
  by_cases e : nbN f n 0 = 0
  · exact Or.inl e
  · right
    rw [a3 (nbN f n 0 - 1) (by omega) (by omega)]
    exact fun q => a4 z q.symm
theorem en_sp {f : Nat → Int32} {n p : Nat} (h : bgN f n p = true) : p < enN f n p ∧ enN f n p ≤ n ∧ (∀ j, p ≤ j → j < enN f n p → kdN f n j = kdN f n p) ∧ (kdN f n p = 2 → enN f n p = p + 1) ∧ (¬ kdN f n p = 2 → enN f n p = n ∨ ¬ kdN f n (enN f n p) = kdN f n p) := by
  have hb := bg_t h
  by_cases c : kdN f n p = 2
  · have e : enN f n p = p + 1 := if_pos c
    refine ⟨by omega, by omega, fun j a b => by rw [show j = p by omega], fun _ => e, fun z => absurd c z⟩
  · have e : enN f n p = rnN f n (kdN f n p) p := if_neg c
    obtain ⟨a1, a2, a3, a4⟩ := rn_sp (f := f) (n := n) (p := p) (k := kdN f n p) (by omega)
    rw [← e] at a1 a2 a3 a4
    refine ⟨?_, a2, a3, fun z => absurd z c, fun _ => a4⟩
    rcases Nat.lt_or_ge p (enN f n p) with z | z
    · exact z
    · have q : enN f n p = p := by omega
      rw [q] at a4
      rcases a4 with a4 | a4
      · omega
      · exact absurd rfl a4
theorem cnt_gap {P : Nat → Bool} {a : Nat} : ∀ d : Nat, (∀ j, a ≤ j → j < a + d → P j = false) → cntB P (a + d) = cntB P a := by
  intro d
  induction d with
  | zero => intro _; rfl
  | succ d ih =>
    intro h
    show cntB P (a + d) + (if P (a + d) = true then 1 else 0) = cntB P a
    rw [ih (fun j b c => h j b (by omega)), h (a + d) (by omega) (by omega)]
    exact Int.add_zero _
theorem bg_f {f : Nat → Int32} {n j : Nat} (h : kdN f n j = 3 ∨ (¬ kdN f n j = 2 ∧ 1 ≤ j ∧ kdN f n (j - 1) = kdN f n j)) : bgN f n j = false := by
  refine decide_eq_false (fun q => ?_)
  rcases q with q | ⟨q1, q2 | q2⟩ <;> rcases h with h | ⟨h1, h2, h3⟩
  · omega
  · exact h1 q
  · exact q1 h
  · omega
  · exact q1 h
  · exact q2 h3
theorem nx_sp {f : Nat → Int32} {n p : Nat} (h : bgN f n p = true) : gdN f n (nxN f n p) ∧ cntB (bgN f n) (nxN f n p) = cntB (bgN f n) p + 1 ∧ p < nxN f n p := by
  obtain ⟨e1, e2, e3, e4, e5⟩ := en_sp h
  have hb := bg_t h
  obtain ⟨a1, a2, a3, a4⟩ := nb_sp (f := f) (n := n) (p := enN f n p) e2
  have u : nxN f n p = nbN f n (enN f n p) := rfl
  rw [u]
  refine ⟨⟨a2, fun z => decide_eq_true ?_⟩, ?_, by omega⟩
  · by_cases q : nbN f n (enN f n p) = enN f n p
    · rw [q] at z a4 ⊢
      have k3 := a4 z
      by_cases c : kdN f n p = 2
      · by_cases d : kdN f n (enN f n p) = 2
        · exact Or.inl d
        · refine Or.inr ⟨k3, Or.inr ?_⟩
          rw [e3 (enN f n p - 1) (by omega) (by omega), c]
          exact fun w => d w.symm
      · refine Or.inr ⟨k3, Or.inr ?_⟩
        rw [e3 (enN f n p - 1) (by omega) (by omega)]
        rcases e5 c with w | w
        · omega
        · exact fun x => w x.symm
    · refine Or.inr ⟨a4 z, Or.inr ?_⟩
      rw [a3 (nbN f n (enN f n p) - 1) (by omega) (by omega)]
      exact fun w => a4 z w.symm
  · have g := cnt_gap (P := bgN f n) (a := p + 1) (nbN f n (enN f n p) - (p + 1)) (fun j b c => by
      by_cases w : j < enN f n p
      · by_cases c2 : kdN f n p = 2
        · have := e4 c2; omega
        · refine bg_f (Or.inr ⟨?_, by omega, ?_⟩)
          · rw [e3 j (by omega) w]; exact c2
          · rw [e3 j (by omega) w, e3 (j - 1) (by omega) (by omega)]
      · exact bg_f (Or.inl (a3 j (by omega) (by omega))))
    rw [show (p + 1) + (nbN f n (enN f n p) - (p + 1)) = nbN f n (enN f n p) by omega] at g
    rw [g]
    show cntB (bgN f n) p + (if bgN f n p = true then 1 else 0) = _
    rw [if_pos h]
/-- words -/
def spN (f : Nat → Int32) (n p w : Nat) : Prop := p + stL.getD w 0 ≤ n ∧ ¬ kdN f n (p + stL.getD w 0) = 0 ∧ ∀ i, i < stL.getD w 0 → f (p + i) = stC w i
noncomputable def spD (f : Nat → Int32) (n p w : Nat) : Decidable (spN f n p w) := Classical.propDecidable _
noncomputable def fwN (f : Nat → Int32) (n p : Nat) : Nat → Int
  | 0 => -1
  | m + 1 => if 0 ≤ fwN f n p m then fwN f n p m else @ite Int (spN f n p m) (spD f n p m) (m : Int) (-1)
theorem fw_s {f : Nat → Int32} {n p m : Nat} : fwN f n p (m + 1) = if 0 ≤ fwN f n p m then fwN f n p m else @ite Int (spN f n p m) (spD f n p m) (m : Int) (-1) := rfl
theorem fw_b {f : Nat → Int32} {n p : Nat} : ∀ m : Nat, -1 ≤ fwN f n p m ∧ fwN f n p m < (m : Int) := by
  intro m
  induction m with
  | zero => show (-1 : Int) ≤ -1 ∧ (-1 : Int) < ((0 : Nat) : Int); omega
  | succ m ih => rw [fw_s]; (repeat' split) <;> omega
theorem fw_f {f : Nat → Int32} {n p m : Nat} (h : fwN f n p m = -1) (hs : ¬ spN f n p m) : fwN f n p (m + 1) = -1 := by
  rw [fw_s, if_neg (by omega), if_neg hs]
theorem fw_t {f : Nat → Int32} {n p m : Nat} (h : fwN f n p m = -1) (hs : spN f n p m) : fwN f n p (m + 1) = (m : Int) := by
  rw [fw_s, if_neg (by omega), if_pos hs]
theorem fw_up {f : Nat → Int32} {n p m : Nat} (h : 0 ≤ fwN f n p m) : ∀ d : Nat, fwN f n p (m + d) = fwN f n p m := by
  intro d
  induction d with
  | zero => rfl
  | succ d ih =>
    show (if 0 ≤ fwN f n p (m + d) then fwN f n p (m + d) else _) = _
    rw [ih, if_pos h]
theorem fw_sp {f : Nat → Int32} {n p : Nat} : ∀ m : Nat, ∀ w : Nat, fwN f n p m = (w : Int) → spN f n p w := by
  intro m
  induction m with
  | zero => intro w h; exact absurd h (by show ¬ (-1 : Int) = (w : Int); omega)
  | succ m ih =>
    intro w h
    by_cases a : 0 ≤ fwN f n p m
    · rw [fw_s, if_pos a] at h
      exact ih w h
    · by_cases b : spN f n p m
      · rw [fw_s, if_neg a, if_pos b] at h
        rw [show w = m by omega]; exact b
      · rw [fw_s, if_neg a, if_neg b] at h
        omega
/-- numbers and signs -/
def nvN (f : Nat → Int32) (p : Nat) : Nat → Int
  | 0 => 0
  | k + 1 => nvN f p k * 10 + (f (p + k)).toInt - 48
def cnN (f : Nat → Int32) (n p : Nat) : Int := if rnN f n 1 p ≤ p + 4 then 1000 + nvN f p (rnN f n 1 p - p) else -1
def csN (c : Int) : Int := if c = 60 ∨ c = 62 ∨ c = 61 ∨ c = 59 then c else -1
noncomputable def cdN (f : Nat → Int32) (n p : Nat) : Int := if kdN f n p = 0 then fwN f n p 13 else if kdN f n p = 1 then cnN f n p else if kdN f n p = 2 then csN (f p).toInt else -1

/-- packed words: what the reference reads -/
def pkN (a : Nat → Nat) : Nat → Nat
  | 0 => 0
  | k + 1 => pkN a k * 256 + a k
theorem pk_inj {a b : Nat → Nat} : ∀ L M : Nat, (∀ i, i < L → 1 ≤ a i ∧ a i ≤ 255) → (∀ i, i < M → 1 ≤ b i ∧ b i ≤ 255) → pkN a L = pkN b M → L = M ∧ ∀ i, i < L → a i = b i := by
  intro L
  induction L with
  | zero =>
    intro M _ hb h
    cases M with
    | zero => exact ⟨rfl, fun i hi => by omega⟩
    | succ M =>
      have := hb M (by omega)
      have h2 : (0 : Nat) = pkN b M * 256 + b M := h
      omega
  | succ L ih =>
    intro M ha hb h
    cases M with
    | zero =>
      have := ha L (by omega)
      have h2 : pkN a L * 256 + a L = 0 := h
      omega
    | succ M =>
      have h2 : pkN a L * 256 + a L = pkN b M * 256 + b M := h
      have x := ha L (by omega)
      have y := hb M (by omega)
      obtain ⟨e1, e2⟩ := ih M (fun i hi => ha i (by omega)) (fun i hi => hb i (by omega)) (by omega)
      refine ⟨by omega, fun i hi => ?_⟩
      by_cases z : i = L
      · have e3 : a L = b M := by omega
        rw [z, e3, e1]
      · exact e2 i (by omega)
def wcL : List Nat := [8319400191629685864, 482671228019, 1751474548, 30796695599342963, 1819242347, 6578553, 26990, 7364974, 26982, 6385252, 1952998766, 1685217655, 444300616805]
def stNL : List (List Nat) := [[115, 116, 114, 101, 110, 103, 116, 104], [112, 97, 114, 116, 115], [104, 101, 97, 116], [109, 105, 110, 117, 116, 101, 115], [108, 111, 111, 107], [100, 97, 121], [105, 110], [112, 97, 110], [105, 102], [97, 110, 100], [116, 104, 101, 110], [100, 114, 97, 119], [103, 114, 97, 100, 101]]
theorem pk_cg {a b : Nat → Nat} : ∀ k : Nat, (∀ i, i < k → a i = b i) → pkN a k = pkN b k := by
  intro k
  induction k with
  | zero => intro _; rfl
  | succ k ih =>
    intro h
    show pkN a k * 256 + a k = pkN b k * 256 + b k
    rw [ih (fun i hi => h i (by omega)), h k (by omega)]
theorem st_nat : ∀ w, w < 13 → ∀ i, i < 8 → i < stL.getD w 0 → (stC w i).toInt = (((stNL.getD w []).getD i 0 : Nat) : Int) := by decide +kernel
theorem wc_pk0 : ∀ w, w < 13 → pkN (fun i => (stNL.getD w []).getD i 0) (stL.getD w 0) = wcL.getD w 0 := by decide +kernel
theorem wc_pk (w : Nat) (hw : w < 13) : pkN (fun i => (stC w i).toInt.toNat) (stL.getD w 0) = wcL.getD w 0 := by
  obtain ⟨s1, s2, s3⟩ := st_all w hw
  rw [← wc_pk0 w hw]
  refine pk_cg _ (fun i hi => ?_)
  have q := st_nat w hw i (by omega) hi
  show (stC w i).toInt.toNat = _
  omega
theorem wc_inj : ∀ w, w < 13 → ∀ v, v < 13 → wcL.getD w 0 = wcL.getD v 0 → w = v := by decide +kernel
theorem wc_pos : ∀ w, w < 13 → 0 < wcL.getD w 0 ∧ 2 ≤ stL.getD w 0 ∧ stL.getD w 0 ≤ 8 := by decide +kernel
def bNat (f : Nat → Int32) (p : Nat) : Nat → Nat := fun i => (f (p + i)).toInt.toNat
theorem wd_back {f : Nat → Int32} {n p w c : Nat} (hp : p ≤ n) (hw : w < 13) (hc : pkN (fun i => (stC w i).toInt.toNat) (stL.getD w 0) = c) (h1 : rnN f n 0 p ≤ p + 8) (h2 : pkN (bNat f p) (rnN f n 0 p - p) = c) : spN f n p w := by
  obtain ⟨s1, s2, s3⟩ := st_all w hw
  obtain ⟨r1, r2, r3, r4⟩ := rn_sp (f := f) (n := n) (p := p) (k := 0) hp
  rw [← hc] at h2
  have lt : ∀ j, p ≤ j → j < rnN f n 0 p → 97 ≤ (f j).toInt ∧ (f j).toInt ≤ 122 := fun j a b => by
    have q := r3 j a b
    rw [kd_in (by omega)] at q
    exact chK_0.mp q
  obtain ⟨e1, e2⟩ := pk_inj _ _ (fun i hi => by
      have q := lt (p + i) (by omega) (by omega)
      show 1 ≤ (f (p + i)).toInt.toNat ∧ (f (p + i)).toInt.toNat ≤ 255
      omega) (fun i hi => by
      have q := (s3 i (by omega) hi).2
      show 1 ≤ (stC w i).toInt.toNat ∧ (stC w i).toInt.toNat ≤ 255
      omega) h2
  refine ⟨by omega, ?_, fun i hi => ?_⟩
  · rw [← e1, show p + (rnN f n 0 p - p) = rnN f n 0 p by omega]
    rcases r4 with r4 | r4
    · rw [r4, kd_out (by omega)]; decide
    · exact r4
  · have q := e2 i (by omega)
    have q1 := lt (p + i) (by omega) (by omega)
    have q2 := (s3 i (by omega) hi).2
    apply Int32.toInt_inj.mp
    have q3 : (f (p + i)).toInt.toNat = (stC w i).toInt.toNat := q
    omega
/-- the run of letters at p, packed, is a word just when that word is spelt there -/
theorem wd_sp0 {f : Nat → Int32} {n p w c : Nat} (hp : p ≤ n) (hw : w < 13) (hc : pkN (fun i => (stC w i).toInt.toNat) (stL.getD w 0) = c) : spN f n p w ↔ (rnN f n 0 p ≤ p + 8 ∧ pkN (bNat f p) (rnN f n 0 p - p) = c) := by
  obtain ⟨s1, s2, s3⟩ := st_all w hw
  obtain ⟨r1, r2, r3, r4⟩ := rn_sp (f := f) (n := n) (p := p) (k := 0) hp
  constructor
  · intro h
    obtain ⟨h1, h2, h3⟩ := h
    have e : rnN f n 0 p = p + stL.getD w 0 := rn_eq (by omega) h1 (fun j a b => by
      have q := h3 (j - p) (by omega)
      rw [show p + (j - p) = j by omega] at q
      rw [kd_in (by omega), q]
      exact chK_0.mpr (s3 (j - p) (by omega) (by omega)).2) (Or.inr h2)
    refine ⟨by omega, ?_⟩
    rw [e, show p + stL.getD w 0 - p = stL.getD w 0 by omega, ← hc]
    exact pk_cg _ (fun i hi => congrArg (fun z : Int32 => z.toInt.toNat) (h3 i hi))
  · exact fun h => wd_back hp hw hc h.1 h.2
theorem wd_sp {f : Nat → Int32} {n p w : Nat} (hp : p ≤ n) (hw : w < 13) : spN f n p w ↔ (rnN f n 0 p ≤ p + 8 ∧ pkN (bNat f p) (rnN f n 0 p - p) = wcL.getD w 0) := wd_sp0 hp hw (wc_pk w hw)
theorem sp_one {f : Nat → Int32} {n p w v : Nat} (hp : p ≤ n) (hw : w < 13) (hv : v < 13) (a : spN f n p w) (b : spN f n p v) : w = v := by
  have x := ((wd_sp hp hw).mp a).2
  have y := ((wd_sp hp hv).mp b).2
  exact wc_inj w hw v hv (by rw [← x, ← y])
theorem sp_kd {f : Nat → Int32} {n p w : Nat} (hw : w < 13) (h : spN f n p w) : kdN f n p = 0 ∧ p < n := by
  obtain ⟨s1, s2, s3⟩ := st_all w hw
  obtain ⟨h1, h2, h3⟩ := h
  have q := h3 0 (by omega)
  rw [show p + 0 = p from rfl] at q
  refine ⟨?_, by omega⟩
  rw [kd_in (by omega), q]
  exact chK_0.mpr (s3 0 (by omega) (by omega)).2
theorem fw_of {f : Nat → Int32} {n p w : Nat} (hp : p ≤ n) (hw : w < 13) (h : spN f n p w) : fwN f n p 13 = (w : Int) := by
  have none : ∀ m, m ≤ w → fwN f n p m = -1 := by
    intro m
    induction m with
    | zero => intro _; rfl
    | succ m ih => intro hm; exact fw_f (ih (by omega)) (fun z => by have := sp_one hp hw (by omega) h z; omega)
  have t := fw_t (none w (Nat.le_refl _)) h
  have u := fw_up (f := f) (n := n) (p := p) (m := w + 1) (by rw [t]; omega) (13 - (w + 1))
  rw [show w + 1 + (13 - (w + 1)) = 13 by omega] at u
  rw [u, t]
theorem nv_b {f : Nat → Int32} {n p : Nat} (h : ∀ j, p ≤ j → j < n → 48 ≤ (f j).toInt ∧ (f j).toInt ≤ 57) : ∀ k, p + k ≤ n → k ≤ 4 → 0 ≤ nvN f p k ∧ (k = 0 → nvN f p k = 0) ∧ (k = 1 → nvN f p k ≤ 9) ∧ (k = 2 → nvN f p k ≤ 99) ∧ (k = 3 → nvN f p k ≤ 999) ∧ nvN f p k ≤ 9999 := by
  intro k
  induction k with
  | zero => intro _ _; show (0 : Int) ≤ 0 ∧ _; refine ⟨by omega, fun _ => rfl, fun _ => by omega, fun _ => by omega, fun _ => by omega, by show (0 : Int) ≤ 9999; omega⟩
  | succ k ih =>
    intro h1 h2
    have q := h (p + k) (by omega) (by omega)
    obtain ⟨i1, i2, i3, i4, i5, i6⟩ := ih (by omega) (by omega)
    have e : nvN f p (k + 1) = nvN f p k * 10 + (f (p + k)).toInt - 48 := rfl
    refine ⟨by omega, fun _ => by omega, fun z => ?_, fun z => ?_, fun z => ?_, ?_⟩
    · have := i2 (by omega); omega
    · have := i3 (by omega); omega
    · have := i4 (by omega); omega
    · by_cases z : k = 3
      · have := i5 z; omega
      · by_cases z2 : k = 2
        · have := i4 z2; omega
        · by_cases z1 : k = 1
          · have := i3 z1; omega
          · have := i2 (by omega); omega
theorem cn_b {f : Nat → Int32} {n p : Nat} (hp : p < n) (hk : kdN f n p = 1) : cnN f n p = -1 ∨ (1000 ≤ cnN f n p ∧ cnN f n p ≤ 10999) := by
  obtain ⟨r1, r2, r3, r4⟩ := rn_sp (f := f) (n := n) (p := p) (k := 1) (by omega)
  unfold cnN
  by_cases z : rnN f n 1 p ≤ p + 4
  · rw [if_pos z]
    have q := nv_b (f := f) (n := rnN f n 1 p) (p := p) (fun j a b => by
      have w := r3 j a b
      rw [kd_in (by omega)] at w
      exact chK_1.mp w) (rnN f n 1 p - p) (by omega) (by omega)
    omega
  · rw [if_neg z]; exact Or.inl rfl
theorem cs_b (c : Int) : csN c = -1 ∨ (59 ≤ csN c ∧ csN c ≤ 62 ∧ csN c = c) := by unfold csN; split <;> omega
/-- the code of a place is a word's just when that word is spelt there -/
theorem cd_w {f : Nat → Int32} {n p w : Nat} (hp : p ≤ n) (hw : w < 13) : cdN f n p = (w : Int) ↔ spN f n p w := by
  unfold cdN
  constructor
  · intro h
    by_cases a : kdN f n p = 0
    · rw [if_pos a] at h; exact fw_sp 13 w h
    · rw [if_neg a] at h
      have hlt : p < n ∨ ¬ p < n := by omega
      rcases hlt with hlt | hlt
      · by_cases b : kdN f n p = 1
        · rw [if_pos b] at h
          have := cn_b hlt b; omega
        · rw [if_neg b] at h
          by_cases c : kdN f n p = 2
          · rw [if_pos c] at h
            have := cs_b (f p).toInt; omega
          · rw [if_neg c] at h; omega
      · have := kd_out (f := f) hlt
        rw [if_neg (by omega), if_neg (by omega)] at h; omega
  · intro h
    rw [if_pos (sp_kd hw h).1]
    exact fw_of hp hw h
/-! the class's token rows, and its present token -/
theorem cnt_lt {P : Nat → Bool} {q i : Nat} (h : P q = true) (hi : q < i) : cntB P q < cntB P i := by
  have m := cntB_mono P (i - (q + 1)) (q + 1)
  rw [show q + 1 + (i - (q + 1)) = i by omega] at m
  have e : cntB P (q + 1) = cntB P q + 1 := by
    show cntB P q + (if P q = true then 1 else 0) = _
    rw [if_pos h]
  omega
theorem cnt_le (P : Nat → Bool) : ∀ n : Nat, cntB P n ≤ (n : Int) := by
  intro n
  induction n with
  | zero => exact Int.le_refl 0
  | succ n ih =>
    show cntB P n + (if P n = true then 1 else 0) ≤ _
    split <;> omega
theorem cd_out {f : Nat → Int32} {n p : Nat} (h : ¬ p < n) : cdN f n p = -1 := by
  have k := kd_out (f := f) h
  unfold cdN
  rw [if_neg (by omega), if_neg (by omega), if_neg (by omega)]
def TkT (f ts tc : Nat → Int32) (tl i to : Int32) : Prop := 0 ≤ tl.toInt ∧ 0 ≤ i.toInt ∧ i.toInt ≤ tl.toInt ∧ to.toInt = cntB (bgN f tl.toNatClampNeg) i.toNatClampNeg ∧ ∀ q : Nat, q < i.toNatClampNeg → bgN f tl.toNatClampNeg q = true → (ts (cntB (bgN f tl.toNatClampNeg) q).toNat).toInt = (q : Int) ∧ (tc (cntB (bgN f tl.toNatClampNeg) q).toNat).toInt = cdN f tl.toNatClampNeg q
theorem TkT_0 {f ts tc : Nat → Int32} {tl : Int32} (h : 0 ≤ tl.toInt) : TkT f ts tc tl 0 0 := ⟨h, by decide, by rw [show (0 : Int32).toInt = 0 by decide]; exact h, rfl, fun q hq => by rw [cl_0'] at hq; omega⟩
theorem TkT_f {f ts tc : Nat → Int32} {tl i to i2 : Int32} (h : TkT f ts tc tl i to) (hb : bgN f tl.toNatClampNeg i.toNatClampNeg = false) (hi : i2.toInt = i.toInt + 1 ∧ i2.toInt ≤ tl.toInt) : TkT f ts tc tl i2 to := by
  obtain ⟨h1, h2, h3, h4, h5⟩ := h
  refine ⟨h1, by omega, hi.2, ?_, fun q hq hbq => ?_⟩
  · rw [cl_s h2 hi.1, h4]
    show _ = cntB _ _ + (if bgN f tl.toNatClampNeg i.toNatClampNeg = true then 1 else 0)
    rw [hb]; exact (Int.add_zero _).symm
  · rw [cl_s h2 hi.1] at hq
    by_cases z : q = i.toNatClampNeg
    · rw [z, hb] at hbq; cases hbq
    · exact h5 q (by omega) hbq
theorem TkT_t {f ts tc ts2 tc2 : Nat → Int32} {tl i to i2 to2 c : Int32} (h : TkT f ts tc tl i to) (hb : bgN f tl.toNatClampNeg i.toNatClampNeg = true) (e1 : upd ts to.toNatClampNeg i = ts2) (e2 : upd tc to.toNatClampNeg c = tc2) (hc : c.toInt = cdN f tl.toNatClampNeg i.toNatClampNeg) (hi : i2.toInt = i.toInt + 1 ∧ i2.toInt ≤ tl.toInt) (ht : to2.toInt = to.toInt + 1) : TkT f ts2 tc2 tl i2 to2 := by
  obtain ⟨h1, h2, h3, h4, h5⟩ := h
  have hcl := cl_int (x := i) h2
  have n0 := cntB_nn (bgN f tl.toNatClampNeg) i.toNatClampNeg
  have ct := cl_int (x := to) (by omega)
  have st : cntB (bgN f tl.toNatClampNeg) (i.toNatClampNeg + 1) = cntB (bgN f tl.toNatClampNeg) i.toNatClampNeg + 1 := by
    show cntB _ _ + (if bgN f tl.toNatClampNeg i.toNatClampNeg = true then 1 else 0) = _
    rw [if_pos hb]
  refine ⟨h1, by omega, hi.2, by rw [cl_s h2 hi.1, st]; omega, fun q hq hbq => ?_⟩
  rw [cl_s h2 hi.1] at hq
  rw [← e1, ← e2]
  by_cases z : q = i.toNatClampNeg
  · rw [z, ← h4, show to.toInt.toNat = to.toNatClampNeg from rfl, upd_at rfl, upd_at rfl]
    exact ⟨hcl.symm, hc⟩
  · have lt := cnt_lt (P := bgN f tl.toNatClampNeg) hbq (i := i.toNatClampNeg) (by omega)
    have nn := cntB_nn (bgN f tl.toNatClampNeg) q
    rw [upd_ne (by omega), upd_ne (by omega)]
    exact h5 q (by omega) hbq
def Pr (f tc : Nat → Int32) (tl to pr : Int32) (p : Nat) : Prop := 0 ≤ tl.toInt ∧ gdN f tl.toNatClampNeg p ∧ pr.toInt = cntB (bgN f tl.toNatClampNeg) p ∧ to.toInt = cntB (bgN f tl.toNatClampNeg) tl.toNatClampNeg ∧ ∀ q : Nat, q < tl.toNatClampNeg → bgN f tl.toNatClampNeg q = true → (tc (cntB (bgN f tl.toNatClampNeg) q).toNat).toInt = cdN f tl.toNatClampNeg q
theorem Pr_in {f tc : Nat → Int32} {tl to pr : Int32} {p : Nat} (h : Pr f tc tl to pr p) (hp : p < tl.toNatClampNeg) : 0 ≤ pr.toInt ∧ pr.toInt < to.toInt ∧ (tc pr.toNatClampNeg).toInt = cdN f tl.toNatClampNeg p := by
  obtain ⟨h0, h1, h2, h3, h4⟩ := h
  have b := h1.2 hp
  have lt := cnt_lt b hp
  have nn := cntB_nn (bgN f tl.toNatClampNeg) p
  refine ⟨by omega, by omega, ?_⟩
  have q := h4 p hp b
  rw [← h2] at q
  exact q
theorem Pr_out {f tc : Nat → Int32} {tl to pr : Int32} {p : Nat} (h : Pr f tc tl to pr p) (hp : ¬ p < tl.toNatClampNeg) : to.toInt = pr.toInt ∧ cdN f tl.toNatClampNeg p = -1 ∧ (p : Int) = tl.toInt := by
  obtain ⟨h0, h1, h2, h3, h4⟩ := h
  have e : p = tl.toNatClampNeg := by have := h1.1; omega
  have c := cl_int (x := tl) h0
  refine ⟨by rw [h2, h3, e], cd_out hp, by omega⟩
theorem Pr_b {f tc : Nat → Int32} {tl to pr : Int32} {p : Nat} (h : Pr f tc tl to pr p) : 0 ≤ pr.toInt ∧ pr.toInt ≤ (p : Int) ∧ (p : Int) ≤ tl.toInt := by
  obtain ⟨h0, h1, h2, h3, h4⟩ := h
  have nn := cntB_nn (bgN f tl.toNatClampNeg) p
  have le := cnt_le (bgN f tl.toNatClampNeg) p
  have c := cl_int (x := tl) h0
  have := h1.1
  omega
theorem Pr_nx {f tc : Nat → Int32} {tl to pr pr2 : Int32} {p : Nat} (h : Pr f tc tl to pr p) (hp : p < tl.toNatClampNeg) (e : pr2.toInt = pr.toInt + 1) : Pr f tc tl to pr2 (nxN f tl.toNatClampNeg p) := by
  obtain ⟨h0, h1, h2, h3, h4⟩ := h
  obtain ⟨a, b, _⟩ := nx_sp (h1.2 hp)
  exact ⟨h0, a, by omega, h3, h4⟩
theorem Pr_st {f ts tc : Nat → Int32} {tl i to pr : Int32} (h : TkT f ts tc tl i to) (hi : i.toInt = tl.toInt) (hp : pr.toInt = 0) : Pr f tc tl to pr (nbN f tl.toNatClampNeg 0) := by
  obtain ⟨h1, h2, h3, h4, h5⟩ := h
  have e := cl_e hi
  rw [e] at h4 h5
  obtain ⟨a1, a2, a3, a4⟩ := nb_sp (f := f) (n := tl.toNatClampNeg) (Nat.zero_le _)
  refine ⟨h1, gd_0, ?_, h4, fun q a b => (h5 q a b).2⟩
  have g := cnt_gap (P := bgN f tl.toNatClampNeg) (a := 0) (nbN f tl.toNatClampNeg 0) (fun j a b => bg_f (Or.inl (a3 j a (by omega))))
  rw [Nat.zero_add] at g
  rw [g, hp]; rfl
def Ps (f ts : Nat → Int32) (tl : Int32) : Prop := ∀ q : Nat, q < tl.toNatClampNeg → bgN f tl.toNatClampNeg q = true → (ts (cntB (bgN f tl.toNatClampNeg) q).toNat).toInt = (q : Int)
theorem Ps_st {f ts tc : Nat → Int32} {tl i to : Int32} (h : TkT f ts tc tl i to) (hi : i.toInt = tl.toInt) : Ps f ts tl := by
  obtain ⟨h1, h2, h3, h4, h5⟩ := h
  rw [cl_e hi] at h5
  exact fun q a b => (h5 q a b).1
theorem Ps_at {f ts tc : Nat → Int32} {tl to pr : Int32} {p : Nat} (h : Pr f tc tl to pr p) (s : Ps f ts tl) (hp : p < tl.toNatClampNeg) : (ts pr.toNatClampNeg).toInt = (p : Int) := by
  obtain ⟨h0, h1, h2, h3, h4⟩ := h
  have q := s p hp (h1.2 hp)
  rw [← h2] at q
  exact q
/-! the reader, purely -/
noncomputable def nuP (m : Int) (f : Nat → Int32) (n p : Nat) : Nat := if 1000 ≤ cdN f n p ∧ cdN f n p ≤ 1000 + m then nxN f n p else p
noncomputable def tkP (c : Int) (f : Nat → Int32) (n p : Nat) : Nat := if cdN f n p = c then nxN f n p else p
noncomputable def teB (f : Nat → Int32) (n p : Nat) : Int := if 0 ≤ cdN f n p ∧ cdN f n p ≤ 5 then (if 60 ≤ cdN f n (nxN f n p) ∧ cdN f n (nxN f n p) ≤ 62 then (if 1000 ≤ cdN f n (nxN f n (nxN f n p)) ∧ cdN f n (nxN f n (nxN f n p)) ≤ 10999 then 1 else 0) else 0) else 0
noncomputable def teP (f : Nat → Int32) (n p : Nat) : Nat := if 0 ≤ cdN f n p ∧ cdN f n p ≤ 5 then (if 60 ≤ cdN f n (nxN f n p) ∧ cdN f n (nxN f n p) ≤ 62 then nuP 9999 f n (nxN f n (nxN f n p)) else nxN f n p) else p
noncomputable def tsB (f : Nat → Int32) (n : Nat) : Nat → Nat → Int
  | 0, _ => 0
  | k + 1, p => if teB f n p = 1 then (if cdN f n (teP f n p) = 9 then tsB f n k (nxN f n (teP f n p)) else 1) else 0
noncomputable def tsP (f : Nat → Int32) (n : Nat) : Nat → Nat → Nat
  | 0, p => p
  | k + 1, p => if teB f n p = 1 then (if cdN f n (teP f n p) = 9 then tsP f n k (nxN f n (teP f n p)) else teP f n p) else teP f n p
noncomputable def hdB (f : Nat → Int32) (n p : Nat) : Int := if cdN f n p = 12 then (if 1000 ≤ cdN f n (nxN f n p) ∧ cdN f n (nxN f n p) ≤ 1004 then 1 else 0) else if cdN f n p = 6 then (if cdN f n (nxN f n p) = 7 then 1 else 0) else 0
noncomputable def hdP (f : Nat → Int32) (n p : Nat) : Nat := if cdN f n p = 12 then nuP 4 f n (nxN f n p) else if cdN f n p = 6 then tkP 7 f n (nxN f n p) else p
noncomputable def deB (f : Nat → Int32) (n p : Nat) : Int := if cdN f n p = 11 then 1 else if cdN f n p = 2 then (if 1000 ≤ cdN f n (nxN f n p) ∧ cdN f n (nxN f n p) ≤ 1009 then 1 else 0) else 0
noncomputable def deP (f : Nat → Int32) (n p : Nat) : Nat := if cdN f n p = 11 then nxN f n p else if cdN f n p = 2 then nuP 9 f n (nxN f n p) else p
noncomputable def doB (f : Nat → Int32) (n : Nat) (c : Int) (p : Nat) : Int := if c = 12 then 1 else if cdN f n p = 10 then deB f n (nxN f n p) else 0
noncomputable def doP (f : Nat → Int32) (n : Nat) (c : Int) (p : Nat) : Nat := if c = 12 then p else if cdN f n p = 10 then deP f n (nxN f n p) else p
/-- behind the head: "if", the tests, the deed, ";" -/
noncomputable def bdB (f : Nat → Int32) (n : Nat) (c : Int) (p : Nat) : Int := if cdN f n p = 8 then (if tsB f n 3 (nxN f n p) = 1 then (if doB f n c (tsP f n 3 (nxN f n p)) = 1 then (if cdN f n (doP f n c (tsP f n 3 (nxN f n p))) = 59 then 1 else 0) else 0) else 0) else 0
noncomputable def bdP (f : Nat → Int32) (n : Nat) (c : Int) (p : Nat) : Nat := if cdN f n p = 8 then (if tsB f n 3 (nxN f n p) = 1 then (if doB f n c (tsP f n 3 (nxN f n p)) = 1 then tkP 59 f n (doP f n c (tsP f n 3 (nxN f n p))) else doP f n c (tsP f n 3 (nxN f n p))) else tsP f n 3 (nxN f n p)) else p
noncomputable def smB (f : Nat → Int32) (n p : Nat) : Int := if hdB f n p = 1 then bdB f n (cdN f n p) (hdP f n p) else 0
noncomputable def smP (f : Nat → Int32) (n p : Nat) : Nat := if hdB f n p = 1 then bdP f n (cdN f n p) (hdP f n p) else hdP f n p
/-- all statements: k may still be read -/
noncomputable def rdB (f : Nat → Int32) (n : Nat) : Nat → Nat → Int
  | 0, p => if p < n then 0 else 1
  | k + 1, p => if p < n then (if smB f n p = 1 then rdB f n k (smP f n p) else 0) else 1
noncomputable def rdP (f : Nat → Int32) (n : Nat) : Nat → Nat → Nat
  | 0, p => p
  | k + 1, p => if p < n then (if smB f n p = 1 then rdP f n k (smP f n p) else smP f n p) else p
noncomputable def rdC (f : Nat → Int32) (n : Nat) : Nat → Nat → Int
  | 0, _ => 0
  | k + 1, p => if p < n then (if smB f n p = 1 then 1 + rdC f n k (smP f n p) else 0) else 0
theorem cd_pos {f : Nat → Int32} {n p : Nat} (h : 0 ≤ cdN f n p) : p < n := by
  by_cases z : p < n
  · exact z
  · have := cd_out (f := f) z; omega
/-! the reference's place: behind blanks it is the present token's -/
def Nb (f : Nat → Int32) (sz at_ : Int32) (p : Nat) : Prop := 0 ≤ at_.toInt ∧ at_.toInt ≤ sz.toInt ∧ nbN f sz.toNatClampNeg at_.toNatClampNeg = p ∧ gdN f sz.toNatClampNeg p
theorem nb_stop {f : Nat → Int32} {n q : Nat} (hq : q ≤ n) (h : q = n ∨ ¬ kdN f n q = 3) : nbN f n q = q := rn_eq (Nat.le_refl _) hq (fun j a b => by omega) h
theorem nb_step {f : Nat → Int32} {n q : Nat} (hq : q < n) (h : kdN f n q = 3) : nbN f n q = nbN f n (q + 1) := by
  obtain ⟨a1, a2, a3, a4⟩ := nb_sp (f := f) (n := n) (p := q + 1) (by omega)
  refine rn_eq (by omega) a2 (fun j b c => ?_) ?_
  · by_cases z : j = q
    · rw [z]; exact h
    · exact a3 j (by omega) c
  · by_cases z : nbN f n (q + 1) < n
    · exact Or.inr (a4 z)
    · exact Or.inl (by omega)
theorem Nb_st {f : Nat → Int32} {sz a a2 : Int32} {p : Nat} (h : Nb f sz a p) (hk : a.toInt < sz.toInt ∧ kdN f sz.toNatClampNeg a.toNatClampNeg = 3) (e : a2.toInt = a.toInt + 1) : Nb f sz a2 p := by
  obtain ⟨h1, h2, h3, h4⟩ := h
  have c1 := cl_int (x := a) h1
  have c2 := cl_int (x := sz) (by omega)
  refine ⟨by omega, by omega, ?_, h4⟩
  rw [cl_s h1 e, ← nb_step (by omega) hk.2]
  exact h3
theorem Nb_stop {f : Nat → Int32} {sz a : Int32} {p : Nat} (h : Nb f sz a p) (hk : a.toInt = sz.toInt ∨ ¬ kdN f sz.toNatClampNeg a.toNatClampNeg = 3) : a.toInt = (p : Int) := by
  obtain ⟨h1, h2, h3, h4⟩ := h
  have c1 := cl_int (x := a) h1
  have c2 := cl_int (x := sz) (by omega)
  rw [nb_stop (by omega) (by rcases hk with z | z; exact Or.inl (by omega); exact Or.inr z)] at h3
  omega
theorem Nb_at {f : Nat → Int32} {sz a a2 : Int32} {p : Nat} (h : Nb f sz a p) (e : a2.toInt = (p : Int)) : Nb f sz a2 p := by
  obtain ⟨h1, h2, h3, h4⟩ := h
  have c1 := cl_int (x := a) h1
  have c2 := cl_int (x := sz) (by omega)
  obtain ⟨a1, b2, a3, a4⟩ := nb_sp (f := f) (n := sz.toNatClampNeg) (p := a.toNatClampNeg) (by omega)
  rw [h3] at a1 b2 a3 a4
  have e2 : a2.toNatClampNeg = p := cl_n e
  refine ⟨by omega, by omega, ?_, h4⟩
  rw [e2]
  refine nb_stop b2 ?_
  by_cases z : p < sz.toNatClampNeg
  · exact Or.inr (a4 z)
  · exact Or.inl (by omega)
theorem Nb_nx {f : Nat → Int32} {sz a a2 : Int32} {p : Nat} (h : Nb f sz a p) (hp : p < sz.toNatClampNeg) (e : a2.toInt = ((enN f sz.toNatClampNeg p : Nat) : Int)) : Nb f sz a2 (nxN f sz.toNatClampNeg p) := by
  obtain ⟨h1, h2, h3, h4⟩ := h
  have c2 := cl_int (x := sz) (by omega)
  have b := h4.2 hp
  obtain ⟨e1, e2, e3, e4, e5⟩ := en_sp b
  refine ⟨by omega, by omega, ?_, (nx_sp b).1⟩
  rw [cl_n e]; rfl
theorem Nb_0 {f : Nat → Int32} {sz a : Int32} (h : 0 ≤ sz.toInt) (ha : a.toInt = 0) : Nb f sz a (nbN f sz.toNatClampNeg 0) := ⟨by omega, by omega, by rw [cl_n (x := a) (n := 0) (by rw [ha]; rfl)], gd_0⟩
theorem ck_all (c : Int) : (chK c = 3 ∧ (c = 32 ∨ c = 10)) ∨ (chK c = 0 ∧ 97 ≤ c ∧ c ≤ 122) ∨ (chK c = 1 ∧ 48 ≤ c ∧ c ≤ 57) ∨ (chK c = 2 ∧ ¬ c = 32 ∧ ¬ c = 10 ∧ ¬ (97 ≤ c ∧ c ≤ 122) ∧ ¬ (48 ≤ c ∧ c ≤ 57)) := by
  unfold chK; (repeat' split) <;> omega
theorem kd_inI {f : Nat → Int32} {tl i : Int32} (h : 0 ≤ i.toInt ∧ i.toInt < tl.toInt) : kdN f tl.toNatClampNeg i.toNatClampNeg = chK (f i.toNatClampNeg).toInt := by
  have a := cl_int (x := i) h.1
  have b := cl_int (x := tl) (by omega)
  exact kd_in (by omega)
theorem kd_outI {f : Nat → Int32} {tl i : Int32} (h : 0 ≤ tl.toInt ∧ tl.toInt ≤ i.toInt) : kdN f tl.toNatClampNeg i.toNatClampNeg = 3 := by
  have a := cl_int (x := i) (by omega)
  have b := cl_int (x := tl) h.1
  exact kd_out (by omega)
theorem cl_p {x i : Int32} (h : 1 ≤ i.toInt ∧ x.toInt = i.toInt - 1) : x.toNatClampNeg = i.toNatClampNeg - 1 := by
  show x.toInt.toNat = i.toInt.toNat - 1
  omega
def Nd (f : Nat → Int32) (tl v i u : Int32) : Prop := 0 ≤ v.toInt ∧ v.toInt ≤ i.toInt ∧ i.toInt ≤ tl.toInt ∧ (∀ j : Nat, v.toNatClampNeg ≤ j → j < i.toNatClampNeg → kdN f tl.toNatClampNeg j = 1) ∧ u.toInt = nvN f v.toNatClampNeg (i.toNatClampNeg - v.toNatClampNeg)
theorem Nd_0 {f : Nat → Int32} {tl v : Int32} (h : 0 ≤ v.toInt ∧ v.toInt ≤ tl.toInt) : Nd f tl v v 0 := ⟨h.1, by omega, h.2, fun j a b => by omega, by rw [Nat.sub_self]; rfl⟩
theorem Nd_s {f : Nat → Int32} {tl v i u i2 u2 : Int32} (h : Nd f tl v i u) (hk : kdN f tl.toNatClampNeg i.toNatClampNeg = 1 ∧ i.toInt < tl.toInt) (hi : i2.toInt = i.toInt + 1) (hu : u2.toInt = u.toInt * 10 + (f i.toNatClampNeg).toInt - 48) : Nd f tl v i2 u2 := by
  obtain ⟨h1, h2, h3, h4, h5⟩ := h
  have cv := cl_int (x := v) h1
  have ci := cl_int (x := i) (by omega)
  have e := cl_s (i := i) (by omega) hi
  refine ⟨h1, by omega, by omega, fun j a b => ?_, ?_⟩
  · by_cases z : j = i.toNatClampNeg
    · rw [z]; exact hk.1
    · exact h4 j a (by omega)
  · rw [e, show i.toNatClampNeg + 1 - v.toNatClampNeg = (i.toNatClampNeg - v.toNatClampNeg) + 1 by omega, hu, h5]
    show _ = nvN f v.toNatClampNeg (i.toNatClampNeg - v.toNatClampNeg) * 10 + (f (v.toNatClampNeg + (i.toNatClampNeg - v.toNatClampNeg))).toInt - 48
    rw [show v.toNatClampNeg + (i.toNatClampNeg - v.toNatClampNeg) = i.toNatClampNeg by omega]
theorem Nd_end {f : Nat → Int32} {tl v i u : Int32} (h : Nd f tl v i u) (he : (i.toInt = tl.toInt ∨ ¬ kdN f tl.toNatClampNeg i.toNatClampNeg = 1) ∧ i.toInt ≤ v.toInt + 4) : cnN f tl.toNatClampNeg v.toNatClampNeg = 1000 + u.toInt := by
  obtain ⟨h1, h2, h3, h4, h5⟩ := h
  have cv := cl_int (x := v) h1
  have ci := cl_int (x := i) (by omega)
  have ct := cl_int (x := tl) (by omega)
  have r : rnN f tl.toNatClampNeg 1 v.toNatClampNeg = i.toNatClampNeg := rn_eq (by omega) (by omega) h4 (by rcases he.1 with z | z; exact Or.inl (by omega); exact Or.inr z)
  unfold cnN
  rw [r, if_pos (by omega), h5]
theorem Nd_long {f : Nat → Int32} {tl v i u : Int32} (h : Nd f tl v i u) (he : v.toInt + 4 ≤ i.toInt ∧ i.toInt < tl.toInt ∧ kdN f tl.toNatClampNeg i.toNatClampNeg = 1) : cnN f tl.toNatClampNeg v.toNatClampNeg = -1 := by
  obtain ⟨h1, h2, h3, h4, h5⟩ := h
  have cv := cl_int (x := v) h1
  have ci := cl_int (x := i) (by omega)
  have ct := cl_int (x := tl) (by omega)
  obtain ⟨r1, r2, r3, r4⟩ := rn_sp (f := f) (n := tl.toNatClampNeg) (p := v.toNatClampNeg) (k := 1) (by omega)
  unfold cnN
  rw [if_neg ?_]
  intro z
  rcases r4 with r4 | r4
  · omega
  · apply r4
    by_cases w : rnN f tl.toNatClampNeg 1 v.toNatClampNeg = i.toNatClampNeg
    · rw [w]; exact he.2.2
    · exact h4 _ r1 (by omega)
def Sw (f : Nat → Int32) (v : Int32) (w : Nat) (i : Int32) : Prop := ∀ j : Nat, j < i.toNatClampNeg → f (v.toNatClampNeg + j) = stC w j
theorem Sw_0 {f : Nat → Int32} {v : Int32} {w : Nat} : Sw f v w 0 := fun j hj => by rw [cl_0'] at hj; omega
theorem sw_c {f : Nat → Int32} {v i ix a r : Int32} {w : Nat} (hw : w < 13) (h : 0 ≤ i.toInt ∧ i.toInt < ((stL.getD w 0 : Nat) : Int) ∧ 0 ≤ v.toInt ∧ ix.toInt = v.toInt + i.toInt) (e1 : a = f ix.toNatClampNeg) (e2 : r = stC w i.toNatClampNeg &&& 255) : a = f (v.toNatClampNeg + i.toNatClampNeg) ∧ r = stC w i.toNatClampNeg := by
  obtain ⟨s1, s2, s3⟩ := st_all w hw
  have ci := cl_int (x := i) h.1
  refine ⟨?_, ?_⟩
  · rw [e1, show ix.toNatClampNeg = v.toNatClampNeg + i.toNatClampNeg from by show ix.toInt.toNat = v.toInt.toNat + i.toInt.toNat; omega]
  · rw [e2]; exact (s3 i.toNatClampNeg (by omega) (by omega)).1
theorem Sw_s {f : Nat → Int32} {v i i2 ix a r : Int32} {w : Nat} (s : Sw f v w i) (hw : w < 13) (h : 0 ≤ i.toInt ∧ i.toInt < ((stL.getD w 0 : Nat) : Int) ∧ 0 ≤ v.toInt ∧ ix.toInt = v.toInt + i.toInt) (e1 : a = f ix.toNatClampNeg) (e2 : r = stC w i.toNatClampNeg &&& 255) (he : a.toInt = r.toInt) (hi : i2.toInt = i.toInt + 1) (_z : (0 : Nat) = 0) : Sw f v w i2 := by
  obtain ⟨x, y⟩ := sw_c hw h e1 e2
  intro j hj
  rw [cl_s h.1 hi] at hj
  by_cases z : j = i.toNatClampNeg
  · rw [z, ← x, ← y]; exact Int32.toInt_inj.mp he
  · exact s j (by omega)
theorem Sw_no {f : Nat → Int32} {n : Nat} {v i ix a r : Int32} {w : Nat} (hw : w < 13) (h : 0 ≤ i.toInt ∧ i.toInt < ((stL.getD w 0 : Nat) : Int) ∧ 0 ≤ v.toInt ∧ ix.toInt = v.toInt + i.toInt) (e1 : a = f ix.toNatClampNeg) (e2 : r = stC w i.toNatClampNeg &&& 255) (he : ¬ a.toInt = r.toInt) : ¬ spN f n v.toNatClampNeg w := by
  obtain ⟨x, y⟩ := sw_c hw h e1 e2
  have ci := cl_int (x := i) h.1
  intro q
  apply he
  rw [x, y, q.2.2 i.toNatClampNeg (by omega)]
theorem cl_end {e v : Int32} {w : Nat} (h : 0 ≤ v.toInt ∧ e.toInt = v.toInt + ((stL.getD w 0 : Nat) : Int)) : e.toNatClampNeg = v.toNatClampNeg + stL.getD w 0 := by
  show e.toInt.toNat = v.toInt.toNat + stL.getD w 0
  omega
theorem sp_nk {f : Nat → Int32} {n : Nat} {e v : Int32} {w : Nat} (h : e.toNatClampNeg = v.toNatClampNeg + stL.getD w 0) (hk : kdN f n e.toNatClampNeg = 0) : ¬ spN f n v.toNatClampNeg w := fun q => q.2.1 (by rw [← h]; exact hk)
theorem sp_nl {f : Nat → Int32} {tl v : Int32} {w : Nat} (h : 0 ≤ tl.toInt ∧ 0 ≤ v.toInt ∧ tl.toInt < v.toInt + ((stL.getD w 0 : Nat) : Int)) : ¬ spN f tl.toNatClampNeg v.toNatClampNeg w := fun q => by
  have a := q.1
  have c1 := cl_int (x := tl) h.1
  have c2 := cl_int (x := v) h.2.1
  omega
theorem Sw_yes {f : Nat → Int32} {tl v i e : Int32} {w : Nat} (s : Sw f v w i) (hi : i.toInt = ((stL.getD w 0 : Nat) : Int)) (he : e.toNatClampNeg = v.toNatClampNeg + stL.getD w 0) (hl : 0 ≤ tl.toInt ∧ 0 ≤ e.toInt ∧ e.toInt ≤ tl.toInt) (hk : ¬ kdN f tl.toNatClampNeg e.toNatClampNeg = 0) : spN f tl.toNatClampNeg v.toNatClampNeg w := by
  have c1 := cl_int (x := tl) hl.1
  have c2 := cl_int (x := e) hl.2.1
  refine ⟨by omega, by rw [← he]; exact hk, fun j hj => s j ?_⟩
  rw [cl_n hi]; exact hj
def Fw (f : Nat → Int32) (tl v c : Int32) : Prop := 0 ≤ c.toInt ∧ fwN f tl.toNatClampNeg v.toNatClampNeg c.toNatClampNeg = -1
theorem Fw_0 {f : Nat → Int32} {tl v : Int32} : Fw f tl v 0 := ⟨by decide, by rw [cl_0']; rfl⟩
theorem Fw_s {f : Nat → Int32} {tl v c c2 : Int32} (h : Fw f tl v c) (hs : ¬ spN f tl.toNatClampNeg v.toNatClampNeg c.toNatClampNeg) (hc : c2.toInt = c.toInt + 1) : Fw f tl v c2 := by
  have := h.1
  exact ⟨by omega, by rw [cl_s h.1 hc]; exact fw_f h.2 hs⟩
theorem Fw_t {f : Nat → Int32} {tl v c : Int32} (h : Fw f tl v c) (hs : spN f tl.toNatClampNeg v.toNatClampNeg c.toNatClampNeg) (hc : c.toInt < 13) : fwN f tl.toNatClampNeg v.toNatClampNeg 13 = c.toInt := by
  have cc := cl_int (x := c) h.1
  have t := fw_t h.2 hs
  have u := fw_up (f := f) (n := tl.toNatClampNeg) (p := v.toNatClampNeg) (m := c.toNatClampNeg + 1) (by rw [t]; omega) (13 - (c.toNatClampNeg + 1))
  rw [show c.toNatClampNeg + 1 + (13 - (c.toNatClampNeg + 1)) = 13 by omega] at u
  rw [u, t]; exact cc
theorem Fw_e {f : Nat → Int32} {tl v c : Int32} (h : Fw f tl v c) (hc : c.toInt = 13) : fwN f tl.toNatClampNeg v.toNatClampNeg 13 = -1 := by
  have e : c.toNatClampNeg = 13 := cl_n (n := 13) (by rw [hc]; rfl)
  rw [← e]; exact h.2
theorem TkT_n {f ts tc : Nat → Int32} {tl i i2 to : Int32} (h : TkT f ts tc tl i to) (e : i.toInt = i2.toInt) (_z : (0 : Nat) = 0) : TkT f ts tc tl i2 to := by
  rw [← Int32.toInt_inj.mp e]; exact h
theorem Pr_cd {f tc : Nat → Int32} {tl to pr : Int32} {p : Nat} (h : Pr f tc tl to pr p) : (0 ≤ pr.toInt ∧ pr.toInt < to.toInt ∧ (tc pr.toNatClampNeg).toInt = cdN f tl.toNatClampNeg p) ∨ (to.toInt = pr.toInt ∧ cdN f tl.toNatClampNeg p = -1) := by
  by_cases z : p < tl.toNatClampNeg
  · exact Or.inl (Pr_in h z)
  · have q := Pr_out h z
    exact Or.inr ⟨q.1, q.2.1⟩
theorem Ps_cd {f ts tc : Nat → Int32} {tl to pr : Int32} {p : Nat} (h : Pr f tc tl to pr p) (s : Ps f ts tl) : (0 ≤ pr.toInt ∧ pr.toInt < to.toInt ∧ (ts pr.toNatClampNeg).toInt = (p : Int)) ∨ (to.toInt = pr.toInt ∧ (p : Int) = tl.toInt) := by
  by_cases z : p < tl.toNatClampNeg
  · have q := Pr_in h z
    exact Or.inl ⟨q.1, q.2.1, Ps_at h s z⟩
  · have q := Pr_out h z
    exact Or.inr ⟨q.1, q.2.2⟩
theorem cd_b (f : Nat → Int32) (n p : Nat) : (-1) ≤ cdN f n p ∧ cdN f n p ≤ 10999 := by
  unfold cdN
  by_cases a : kdN f n p = 0
  · rw [if_pos a]
    have := fw_b (f := f) (n := n) (p := p) 13
    omega
  · rw [if_neg a]
    by_cases b : kdN f n p = 1
    · rw [if_pos b]
      have hlt : p < n := by
        by_cases z : p < n
        · exact z
        · have := kd_out (f := f) z; omega
      have := cn_b hlt b
      omega
    · rw [if_neg b]
      by_cases c : kdN f n p = 2
      · rw [if_pos c]
        have := cs_b (f p).toInt
        omega
      · rw [if_neg c]; omega
theorem Pr_e {f tc : Nat → Int32} {tl to pr : Int32} {p q : Nat} (h : Pr f tc tl to pr p) (e : p = q) : Pr f tc tl to pr q := e ▸ h
theorem Nb_e {f : Nat → Int32} {sz a : Int32} {p q : Nat} (h : Nb f sz a p) (e : p = q) : Nb f sz a q := e ▸ h
theorem tkq_t {c : Int} {f : Nat → Int32} {n p : Nat} (h : cdN f n p = c) : tkP c f n p = nxN f n p := if_pos h
theorem tkq_f {c : Int} {f : Nat → Int32} {n p : Nat} (h : ¬ cdN f n p = c) : tkP c f n p = p := if_neg h
theorem nuq_t {m : Int} {f : Nat → Int32} {n p : Nat} (h : 1000 ≤ cdN f n p ∧ cdN f n p ≤ 1000 + m) : nuP m f n p = nxN f n p := if_pos h
theorem nuq_f {m : Int} {f : Nat → Int32} {n p : Nat} (h : ¬ (1000 ≤ cdN f n p ∧ cdN f n p ≤ 1000 + m)) : nuP m f n p = p := if_neg h
theorem tk_t {f tc : Nat → Int32} {tl to pr pr2 : Int32} {p : Nat} {c : Int} (h : Pr f tc tl to pr p) (hc : cdN f tl.toNatClampNeg p = c ∧ 0 ≤ c) (e : pr2.toInt = pr.toInt + 1) : Pr f tc tl to pr2 (tkP c f tl.toNatClampNeg p) := by
  rw [tkq_t hc.1]
  exact Pr_nx h (cd_pos (f := f) (by rw [hc.1]; exact hc.2)) e
theorem tk_f {f tc : Nat → Int32} {tl to pr : Int32} {p : Nat} {c : Int} (h : Pr f tc tl to pr p) (hc : ¬ cdN f tl.toNatClampNeg p = c) : Pr f tc tl to pr (tkP c f tl.toNatClampNeg p) := by rw [tkq_f hc]; exact h
theorem nu_t {f tc : Nat → Int32} {tl to pr pr2 : Int32} {p : Nat} {m : Int} (h : Pr f tc tl to pr p) (hc : 1000 ≤ cdN f tl.toNatClampNeg p ∧ cdN f tl.toNatClampNeg p ≤ 1000 + m) (e : pr2.toInt = pr.toInt + 1) : Pr f tc tl to pr2 (nuP m f tl.toNatClampNeg p) := by
  rw [nuq_t hc]
  exact Pr_nx h (cd_pos (f := f) (by omega)) e
theorem nu_f {f tc : Nat → Int32} {tl to pr : Int32} {p : Nat} {m : Int} (h : Pr f tc tl to pr p) (hc : ¬ (1000 ≤ cdN f tl.toNatClampNeg p ∧ cdN f tl.toNatClampNeg p ≤ 1000 + m)) : Pr f tc tl to pr (nuP m f tl.toNatClampNeg p) := by rw [nuq_f hc]; exact h
theorem ts_0 {f : Nat → Int32} {n p : Nat} : tsB f n 0 p = 0 := rfl
theorem ts_1 {f : Nat → Int32} {n p : Nat} : tsB f n 1 p = if teB f n p = 1 then (if cdN f n (teP f n p) = 9 then tsB f n 0 (nxN f n (teP f n p)) else 1) else 0 := rfl
theorem ts_2 {f : Nat → Int32} {n p : Nat} : tsB f n 2 p = if teB f n p = 1 then (if cdN f n (teP f n p) = 9 then tsB f n 1 (nxN f n (teP f n p)) else 1) else 0 := rfl
theorem ts_3 {f : Nat → Int32} {n p : Nat} : tsB f n 3 p = if teB f n p = 1 then (if cdN f n (teP f n p) = 9 then tsB f n 2 (nxN f n (teP f n p)) else 1) else 0 := rfl
theorem tp_0 {f : Nat → Int32} {n p : Nat} : tsP f n 0 p = p := rfl
theorem tp_1 {f : Nat → Int32} {n p : Nat} : tsP f n 1 p = if teB f n p = 1 then (if cdN f n (teP f n p) = 9 then tsP f n 0 (nxN f n (teP f n p)) else teP f n p) else teP f n p := rfl
theorem tp_2 {f : Nat → Int32} {n p : Nat} : tsP f n 2 p = if teB f n p = 1 then (if cdN f n (teP f n p) = 9 then tsP f n 1 (nxN f n (teP f n p)) else teP f n p) else teP f n p := rfl
theorem tp_3 {f : Nat → Int32} {n p : Nat} : tsP f n 3 p = if teB f n p = 1 then (if cdN f n (teP f n p) = 9 then tsP f n 2 (nxN f n (teP f n p)) else teP f n p) else teP f n p := rfl
def Rr (f : Nat → Int32) (tl : Int32) (P0 : Nat) (i bk : Int32) (p : Nat) : Prop := 0 ≤ i.toInt ∧ i.toInt ≤ 16 ∧ bk.toInt = i.toInt ∧ rdB f tl.toNatClampNeg 16 P0 = rdB f tl.toNatClampNeg (16 - i.toNatClampNeg) p ∧ rdP f tl.toNatClampNeg 16 P0 = rdP f tl.toNatClampNeg (16 - i.toNatClampNeg) p ∧ rdC f tl.toNatClampNeg 16 P0 = i.toInt + rdC f tl.toNatClampNeg (16 - i.toNatClampNeg) p
theorem Rr_0 {f : Nat → Int32} {tl bk : Int32} {P0 : Nat} (h : bk.toInt = 0) : Rr f tl P0 0 bk P0 := by
  have z : (0 : Int32).toInt = 0 := by decide
  refine ⟨by omega, by omega, by omega, by rw [cl_0'], by rw [cl_0'], by rw [cl_0', z, Int.zero_add]⟩
theorem rd_s {f : Nat → Int32} {n k p : Nat} (hp : p < n) (hs : smB f n p = 1) : rdB f n (k + 1) p = rdB f n k (smP f n p) ∧ rdP f n (k + 1) p = rdP f n k (smP f n p) ∧ rdC f n (k + 1) p = 1 + rdC f n k (smP f n p) := by
  refine ⟨?_, ?_, ?_⟩
  · show (if p < n then (if smB f n p = 1 then rdB f n k (smP f n p) else 0) else 1) = _
    rw [if_pos hp, if_pos hs]
  · show (if p < n then (if smB f n p = 1 then rdP f n k (smP f n p) else smP f n p) else p) = _
    rw [if_pos hp, if_pos hs]
  · show (if p < n then (if smB f n p = 1 then 1 + rdC f n k (smP f n p) else 0) else 0) = _
    rw [if_pos hp, if_pos hs]
theorem Rr_s {f : Nat → Int32} {tl i bk i2 bk2 : Int32} {P0 p : Nat} (h : Rr f tl P0 i bk p) (hp : p < tl.toNatClampNeg) (hs : smB f tl.toNatClampNeg p = 1) (hi : i.toInt < 16 ∧ i2.toInt = i.toInt + 1 ∧ bk2.toInt = bk.toInt + 1) : Rr f tl P0 i2 bk2 (smP f tl.toNatClampNeg p) := by
  obtain ⟨h1, h2, h3, h4, h5, h6⟩ := h
  have ci := cl_int (x := i) h1
  have e := cl_s h1 hi.2.1
  have k : 16 - i.toNatClampNeg = (16 - i2.toNatClampNeg) + 1 := by omega
  obtain ⟨a, b, c⟩ := rd_s (k := 16 - i2.toNatClampNeg) hp hs
  rw [k] at h4 h5 h6
  refine ⟨by omega, by omega, by omega, h4.trans a, h5.trans b, ?_⟩
  rw [h6, c]; omega
theorem Rr_f {f : Nat → Int32} {tl i bk : Int32} {P0 p : Nat} (h : Rr f tl P0 i bk p) (hp : p < tl.toNatClampNeg) (hs : smB f tl.toNatClampNeg p = 0) (hi : i.toInt < 16) : rdB f tl.toNatClampNeg 16 P0 = 0 ∧ rdP f tl.toNatClampNeg 16 P0 = smP f tl.toNatClampNeg p := by
  obtain ⟨h1, h2, h3, h4, h5, h6⟩ := h
  have ci := cl_int (x := i) h1
  have k : 16 - i.toNatClampNeg = (15 - i.toNatClampNeg) + 1 := by omega
  rw [k] at h4 h5
  refine ⟨h4.trans ?_, h5.trans ?_⟩
  · show (if p < tl.toNatClampNeg then (if smB f tl.toNatClampNeg p = 1 then _ else 0) else 1) = 0
    rw [if_pos hp, if_neg (by omega)]
  · show (if p < tl.toNatClampNeg then (if smB f tl.toNatClampNeg p = 1 then _ else smP f tl.toNatClampNeg p) else p) = _
    rw [if_pos hp, if_neg (by omega)]
theorem rd_e {f : Nat → Int32} {n p : Nat} (hp : ¬ p < n) : ∀ k : Nat, rdB f n k p = 1 ∧ rdP f n k p = p ∧ rdC f n k p = 0 := by
  intro k
  cases k with
  | zero => exact ⟨if_neg hp, rfl, rfl⟩
  | succ k => exact ⟨if_neg hp, if_neg hp, if_neg hp⟩
theorem Rr_e {f : Nat → Int32} {tl i bk : Int32} {P0 p : Nat} (h : Rr f tl P0 i bk p) (hp : ¬ p < tl.toNatClampNeg) : rdB f tl.toNatClampNeg 16 P0 = 1 ∧ rdP f tl.toNatClampNeg 16 P0 = p ∧ rdC f tl.toNatClampNeg 16 P0 = bk.toInt := by
  obtain ⟨h1, h2, h3, h4, h5, h6⟩ := h
  obtain ⟨a, b, c⟩ := rd_e (f := f) hp (16 - i.toNatClampNeg)
  refine ⟨h4.trans a, h5.trans b, ?_⟩
  rw [h6, c]; omega
theorem Rr_16 {f : Nat → Int32} {tl i bk : Int32} {P0 p : Nat} (h : Rr f tl P0 i bk p) (hi : i.toInt = 16) (hp : p < tl.toNatClampNeg) : rdB f tl.toNatClampNeg 16 P0 = 0 ∧ rdP f tl.toNatClampNeg 16 P0 = p := by
  obtain ⟨h1, h2, h3, h4, h5, h6⟩ := h
  have ci := cl_int (x := i) h1
  rw [show 16 - i.toNatClampNeg = 0 by omega] at h4 h5
  exact ⟨h4.trans (if_pos hp), h5⟩
theorem Pr_ht {f tc : Nat → Int32} {tl to pr : Int32} {p : Nat} (h : Pr f tc tl to pr p) : (0 ≤ pr.toInt ∧ pr.toInt < to.toInt ∧ p < tl.toNatClampNeg) ∨ (to.toInt = pr.toInt ∧ ¬ p < tl.toNatClampNeg) := by
  by_cases z : p < tl.toNatClampNeg
  · have q := Pr_in h z
    exact Or.inl ⟨q.1, q.2.1, z⟩
  · exact Or.inr ⟨(Pr_out h z).1, z⟩
def ruV (v n b c : Int) : Int := if 0 ≤ v ∧ v ≤ n then (if b = 1 then c else -1) else -2
def fpV (v n b p f : Int) : Int := if 0 ≤ v ∧ v ≤ n then (if b = 1 then -1 else p) else f
theorem bv_sh (a : BitVec 32) (k : Nat) (hk : k + 8 ≤ 32) : (a >>> k).signExtend 8 = (a.sshiftRight k).signExtend 8 := by
  apply BitVec.eq_of_getLsbD_eq
  intro i hi
  rw [BitVec.getLsbD_signExtend, BitVec.getLsbD_signExtend, BitVec.getLsbD_ushiftRight, BitVec.getLsbD_sshiftRight]
  have h1 : k + i < 32 := by omega
  have h2 : ¬ 32 ≤ i := by omega
  have h3 : i < 32 := by omega
  simp [h1, h2, h3]
theorem by_eq (x k : Int32) (hk : k = 24 ∨ k = 16 ∨ k = 8 ∨ k = 0) : ((x.toUInt32 >>> (k.toUInt32 &&& Int32.toUInt32 31)).toInt32).toInt8.toInt32 = (x >>> (k &&& 31)).toInt8.toInt32 := by
  congr 1
  apply Int8.toBitVec_inj.mp
  rcases hk with h | h | h | h
  · subst h; exact bv_sh x.toBitVec 24 (by decide)
  · subst h; exact bv_sh x.toBitVec 16 (by decide)
  · subst h; exact bv_sh x.toBitVec 8 (by decide)
  · subst h; exact bv_sh x.toBitVec 0 (by decide)
theorem sh_or (w : Int64) (y : Int64) (hw : 0 ≤ w.toInt ∧ w.toInt < 36028797018963968) (hy : 0 ≤ y.toInt ∧ y.toInt < 256) : (w <<< ((8 : Int32).toInt64 &&& 63) ||| y).toInt = w.toInt * 256 + y.toInt := by
  have e : (w <<< ((8 : Int32).toInt64 &&& 63) ||| y).toBitVec = (w.toBitVec <<< 8 ||| y.toBitVec) := rfl
  have nw : w.toInt = (w.toBitVec.toNat : Int) := by
    have := BitVec.toInt_eq_toNat_cond w.toBitVec
    have h : w.toInt = w.toBitVec.toInt := rfl
    rw [h] at hw ⊢
    rw [this] at hw ⊢
    have := w.toBitVec.isLt
    split at hw <;> split <;> omega
  have ny : y.toInt = (y.toBitVec.toNat : Int) := by
    have := BitVec.toInt_eq_toNat_cond y.toBitVec
    have h : y.toInt = y.toBitVec.toInt := rfl
    rw [h] at hy ⊢
    rw [this] at hy ⊢
    have := y.toBitVec.isLt
    split at hy <;> split <;> omega
  have hN : (w.toBitVec <<< 8 ||| y.toBitVec).toNat = w.toBitVec.toNat * 256 + y.toBitVec.toNat := by
    rw [BitVec.toNat_or, BitVec.toNat_shiftLeft, Nat.mod_eq_of_lt (by rw [Nat.shiftLeft_eq]; omega)]
    rw [← Nat.shiftLeft_add_eq_or_of_lt (by omega), Nat.shiftLeft_eq]
  show (w <<< ((8 : Int32).toInt64 &&& 63) ||| y).toBitVec.toInt = _
  rw [e, BitVec.toInt_eq_toNat_cond, hN, nw, ny]
  split <;> omega
/-- the text is fb below its size -/
def Tx (e f : Nat → Int32) (sz : Int32) : Prop := ∀ k : Nat, (k : Int) < sz.toInt → e k = f k
theorem Tx_ld {e f : Nat → Int32} {sz i x : Int32} (h : Tx e f sz) (hi : 0 ≤ i.toInt ∧ i.toInt < sz.toInt) (ex : x = e i.toNatClampNeg) : x.toInt = (f i.toNatClampNeg).toInt := by
  have c := cl_int (x := i) hi.1
  rw [ex, h _ (by omega)]
theorem nu_yes {f : Nat → Int32} {sz v i u a : Int32} {p : Nat} {m : Int} (h : Nd f sz v i u) (hv : v.toInt = (p : Int)) (hp : p ≤ sz.toNatClampNeg) (he : (i.toInt = sz.toInt ∨ ¬ kdN f sz.toNatClampNeg i.toNatClampNeg = 1) ∧ v.toInt < i.toInt ∧ i.toInt ≤ v.toInt + 4 ∧ u.toInt ≤ m) : (1000 ≤ cdN f sz.toNatClampNeg p ∧ cdN f sz.toNatClampNeg p ≤ 1000 + m) ∧ p < sz.toNatClampNeg ∧ i.toInt = ((enN f sz.toNatClampNeg p : Nat) : Int) := by
  have e := Nd_end h ⟨he.1, he.2.2.1⟩
  obtain ⟨h1, h2, h3, h4, h5⟩ := h
  have cv := cl_n hv
  have ci := cl_int (x := i) (by omega)
  have cs := cl_int (x := sz) (by omega)
  rw [cv] at e h4 h5
  have k := h4 p (Nat.le_refl _) (by omega)
  have u0 := (nv_b (f := f) (n := i.toNatClampNeg) (p := p) (fun j x y => by have w := h4 j x y; rw [kd_in (by omega)] at w; exact chK_1.mp w) (i.toNatClampNeg - p) (by omega) (by omega)).1
  have r : rnN f sz.toNatClampNeg 1 p = i.toNatClampNeg := rn_eq (by omega) (by omega) h4 (by rcases he.1 with z | z; exact Or.inl (by omega); exact Or.inr z)
  have c : cdN f sz.toNatClampNeg p = 1000 + u.toInt := by
    unfold cdN
    rw [if_neg (by omega), if_pos k]; exact e
  refine ⟨by omega, by omega, ?_⟩
  unfold enN
  rw [if_neg (by omega), k, r]
  omega
theorem nu_no {f : Nat → Int32} {sz v i u : Int32} {p : Nat} {m : Int} (h : Nd f sz v i u) (hv : v.toInt = (p : Int)) (hp : p ≤ sz.toNatClampNeg ∧ m ≤ 9999) (he : ((i.toInt = sz.toInt ∨ ¬ kdN f sz.toNatClampNeg i.toNatClampNeg = 1) ∧ (v.toInt = i.toInt ∨ (i.toInt ≤ v.toInt + 4 ∧ m < u.toInt))) ∨ (v.toInt + 4 < i.toInt)) : ¬ (1000 ≤ cdN f sz.toNatClampNeg p ∧ cdN f sz.toNatClampNeg p ≤ 1000 + m) := by
  have h' := h
  obtain ⟨h1, h2, h3, h4, h5⟩ := h
  have cv := cl_n hv
  have ci := cl_int (x := i) (by omega)
  have cs := cl_int (x := sz) (by omega)
  rw [cv] at h4
  intro z
  have hlt : p < sz.toNatClampNeg := cd_pos (f := f) (by omega)
  have k1 : kdN f sz.toNatClampNeg p = 1 := by
    by_cases a : kdN f sz.toNatClampNeg p = 1
    · exact a
    · exfalso
      unfold cdN at z
      by_cases b : kdN f sz.toNatClampNeg p = 0
      · rw [if_pos b] at z
        have := fw_b (f := f) (n := sz.toNatClampNeg) (p := p) 13
        omega
      · rw [if_neg b, if_neg a] at z
        by_cases c : kdN f sz.toNatClampNeg p = 2
        · rw [if_pos c] at z
          have := cs_b (f p).toInt
          omega
        · rw [if_neg c] at z; omega
  have c : cdN f sz.toNatClampNeg p = cnN f sz.toNatClampNeg p := by
    unfold cdN
    rw [if_neg (by omega), if_pos k1]
  rw [c] at z
  rcases he with ⟨q1, q2⟩ | q
  · rcases q2 with q2 | ⟨q2, q3⟩
    · rcases q1 with q1 | q1
      · omega
      · apply q1
        rw [show i.toNatClampNeg = p by omega]; exact k1
    · have e := Nd_end h' ⟨q1, q2⟩
      rw [cv] at e
      omega
  · obtain ⟨r1, r2, r3, r4⟩ := rn_sp (f := f) (n := sz.toNatClampNeg) (p := p) (k := 1) (by omega)
    unfold cnN at z
    rw [if_neg ?_] at z
    · omega
    · intro w
      rcases r4 with r4 | r4
      · omega
      · exact r4 (h4 _ r1 (by omega))
/-- digits from v on: the first four are the number -/
def Ne (f : Nat → Int32) (tl v i u : Int32) : Prop := (i.toInt ≤ v.toInt + 4 ∧ Nd f tl v i u) ∨ (v.toInt + 4 < i.toInt ∧ i.toInt ≤ tl.toInt ∧ 0 ≤ v.toInt ∧ ∀ j : Nat, v.toNatClampNeg ≤ j → j < i.toNatClampNeg → kdN f tl.toNatClampNeg j = 1)
theorem Ne_0 {f : Nat → Int32} {tl v : Int32} (h : 0 ≤ v.toInt ∧ v.toInt ≤ tl.toInt) : Ne f tl v v 0 := Or.inl ⟨by omega, Nd_0 h⟩
theorem Ne_s {f : Nat → Int32} {tl v i u i2 u2 : Int32} (h : Ne f tl v i u) (hk : kdN f tl.toNatClampNeg i.toNatClampNeg = 1 ∧ i.toInt < tl.toInt) (hi : i2.toInt = i.toInt + 1) (hu : u2.toInt = u.toInt * 10 + (f i.toNatClampNeg).toInt - 48 ∧ i.toInt < v.toInt + 4) : Ne f tl v i2 u2 := by
  rcases h with ⟨h1, h2⟩ | ⟨h1, _⟩
  · exact Or.inl ⟨by omega, Nd_s h2 hk hi hu.1⟩
  · omega
theorem Ne_k {f : Nat → Int32} {tl v i u : Int32} (h : Ne f tl v i u) : 0 ≤ v.toInt ∧ v.toInt ≤ i.toInt ∧ i.toInt ≤ tl.toInt ∧ ∀ j : Nat, v.toNatClampNeg ≤ j → j < i.toNatClampNeg → kdN f tl.toNatClampNeg j = 1 := by
  rcases h with ⟨h1, h2⟩ | ⟨h1, h2, h3, h4⟩
  · obtain ⟨a, b, c, d, e⟩ := h2
    exact ⟨a, b, c, d⟩
  · exact ⟨h3, by omega, h2, h4⟩
theorem Ne_l {f : Nat → Int32} {tl v i u i2 : Int32} (h : Ne f tl v i u) (hk : kdN f tl.toNatClampNeg i.toNatClampNeg = 1 ∧ i.toInt < tl.toInt) (hi : i2.toInt = i.toInt + 1) (hl : v.toInt + 4 ≤ i.toInt) : Ne f tl v i2 u := by
  obtain ⟨a, b, c, d⟩ := Ne_k h
  have e := cl_s (i := i) (by omega) hi
  refine Or.inr ⟨by omega, by omega, a, fun j x y => ?_⟩
  by_cases z : j = i.toNatClampNeg
  · rw [z]; exact hk.1
  · exact d j x (by omega)
theorem Ne_yes {f : Nat → Int32} {sz v i u : Int32} {p : Nat} {m : Int} (h : Ne f sz v i u) (hv : v.toInt = (p : Int)) (he : (i.toInt = sz.toInt ∨ ¬ kdN f sz.toNatClampNeg i.toNatClampNeg = 1) ∧ v.toInt < i.toInt ∧ i.toInt ≤ v.toInt + 4 ∧ u.toInt ≤ m) : (1000 ≤ cdN f sz.toNatClampNeg p ∧ cdN f sz.toNatClampNeg p ≤ 1000 + m) ∧ p < sz.toNatClampNeg ∧ i.toInt = ((enN f sz.toNatClampNeg p : Nat) : Int) := by
  obtain ⟨a, b, c, d⟩ := Ne_k h
  have cs := cl_int (x := sz) (by omega)
  rcases h with ⟨h1, h2⟩ | ⟨h1, _⟩
  · exact nu_yes (a := 0) h2 hv (by omega) he
  · omega
theorem Ne_no {f : Nat → Int32} {sz v i u : Int32} {p : Nat} {m : Int} (h : Ne f sz v i u) (hv : v.toInt = (p : Int)) (hm : m ≤ 9999) (he : (i.toInt = sz.toInt ∨ ¬ kdN f sz.toNatClampNeg i.toNatClampNeg = 1) ∧ (v.toInt = i.toInt ∨ (i.toInt ≤ v.toInt + 4 ∧ m < u.toInt) ∨ v.toInt + 4 < i.toInt)) : ¬ (1000 ≤ cdN f sz.toNatClampNeg p ∧ cdN f sz.toNatClampNeg p ≤ 1000 + m) := by
  obtain ⟨a, b, c, d⟩ := Ne_k h
  have cs := cl_int (x := sz) (by omega)
  have ci := cl_int (x := i) (by omega)
  have cv := cl_n hv
  rcases h with ⟨h1, h2⟩ | ⟨h1, h2, h3, h4⟩
  · refine nu_no h2 hv ⟨by omega, hm⟩ (Or.inl ⟨he.1, ?_⟩)
    omega
  · intro z
    have hlt : p < sz.toNatClampNeg := cd_pos (f := f) (by omega)
    rw [cv] at d
    have k1 := d p (Nat.le_refl _) (by omega)
    have cc : cdN f sz.toNatClampNeg p = cnN f sz.toNatClampNeg p := by
      unfold cdN
      rw [if_neg (by omega), if_pos k1]
    rw [cc] at z
    obtain ⟨r1, r2, r3, r4⟩ := rn_sp (f := f) (n := sz.toNatClampNeg) (p := p) (k := 1) (by omega)
    unfold cnN at z
    rw [if_neg ?_] at z
    · omega
    · intro w
      rcases r4 with r4 | r4
      · omega
      · exact r4 (d _ r1 (by omega))
/-! the reference's word -/
theorem pkn_lt {a : Nat → Nat} : ∀ L : Nat, (∀ i, i < L → a i ≤ 127) → 2 * pkN a L + 1 ≤ 256 ^ L := by
  intro L
  induction L with
  | zero => intro _; show 2 * 0 + 1 ≤ 1; omega
  | succ L ih =>
    intro h
    have x := ih (fun i hi => h i (by omega))
    have y := h L (by omega)
    show 2 * (pkN a L * 256 + a L) + 1 ≤ 256 ^ (L + 1)
    rw [Nat.pow_succ]
    omega
def Wk (f : Nat → Int32) (sz : Int32) (p : Nat) (we : Int32) (w : Int64) : Prop := (p : Int) ≤ we.toInt ∧ we.toInt ≤ sz.toInt ∧ (∀ j : Nat, p ≤ j → j < we.toNatClampNeg → kdN f sz.toNatClampNeg j = 0) ∧ ((we.toInt ≤ (p : Int) + 8 ∧ w.toInt = ((pkN (bNat f p) (we.toNatClampNeg - p) : Nat) : Int)) ∨ ((p : Int) + 8 < we.toInt ∧ w.toInt = 0))
theorem Wk_0 {f : Nat → Int32} {sz we : Int32} {p : Nat} (h : we.toInt = (p : Int) ∧ we.toInt ≤ sz.toInt) : Wk f sz p we 0 := by
  have c := cl_n h.1
  refine ⟨by omega, h.2, fun j a b => by omega, Or.inl ⟨by omega, ?_⟩⟩
  rw [c, Nat.sub_self]; rfl
theorem Wk_k {f : Nat → Int32} {sz we we2 : Int32} {p : Nat} {w : Int64} (h : Wk f sz p we w) (hk : kdN f sz.toNatClampNeg we.toNatClampNeg = 0 ∧ we.toInt < sz.toInt) (hi : we2.toInt = we.toInt + 1) : ∀ j : Nat, p ≤ j → j < we2.toNatClampNeg → kdN f sz.toNatClampNeg j = 0 := by
  obtain ⟨h1, h2, h3, h4⟩ := h
  have e := cl_s (i := we) (by omega) hi
  intro j a b
  by_cases z : j = we.toNatClampNeg
  · rw [z]; exact hk.1
  · exact h3 j a (by omega)
theorem Wk_l {f : Nat → Int32} {sz we we2 : Int32} {p : Nat} {w : Int64} (h : Wk f sz p we w) (hk : kdN f sz.toNatClampNeg we.toNatClampNeg = 0 ∧ we.toInt < sz.toInt) (hi : we2.toInt = we.toInt + 1) (hl : (p : Int) + 8 ≤ we.toInt) : Wk f sz p we2 0 := by
  have k := Wk_k h hk hi
  obtain ⟨h1, h2, h3, h4⟩ := h
  exact ⟨by omega, by omega, k, Or.inr ⟨by omega, by decide⟩⟩
theorem Wk_s {f : Nat → Int32} {sz we we2 x : Int32} {p : Nat} {w a b w2 : Int64} (h : Wk f sz p we w) (hk : kdN f sz.toNatClampNeg we.toNatClampNeg = 0 ∧ we.toInt < sz.toInt) (hi : we2.toInt = we.toInt + 1) (hl : we.toInt < (p : Int) + 8) (hx : x.toInt = (f we.toNatClampNeg).toInt) (e1 : a = w <<< ((8 : Int32).toInt64 &&& 63)) (e2 : b = x.toInt64) (e3 : w2 = a ||| b) : Wk f sz p we2 w2 := by
  have k := Wk_k h hk hi
  obtain ⟨h1, h2, h3, h4⟩ := h
  have c := cl_int (x := we) (by omega)
  have cs := cl_int (x := sz) (by omega)
  have e := cl_s (i := we) (by omega) hi
  have L : 97 ≤ (f we.toNatClampNeg).toInt ∧ (f we.toNatClampNeg).toInt ≤ 122 := by
    have q := hk.1
    rw [kd_in (by omega)] at q
    exact chK_0.mp q
  have all : ∀ i, i < we.toNatClampNeg - p → bNat f p i ≤ 127 := fun i hi => by
    have q := h3 (p + i) (by omega) (by omega)
    rw [kd_in (by omega)] at q
    have := chK_0.mp q
    show (f (p + i)).toInt.toNat ≤ 127
    omega
  have bd := pkn_lt (we.toNatClampNeg - p) all
  have p7 : 256 ^ (we.toNatClampNeg - p) ≤ 256 ^ 7 := Nat.pow_le_pow_right (by decide) (by omega)
  have p7v : (256 : Nat) ^ 7 = 72057594037927936 := by decide
  have hw : w.toInt = ((pkN (bNat f p) (we.toNatClampNeg - p) : Nat) : Int) := by
    rcases h4 with h4 | h4
    · exact h4.2
    · omega
  have bi : b.toInt = x.toInt := by rw [e2]; simp
  have r := sh_or w b (by omega) (by omega)
  refine ⟨by omega, by omega, k, Or.inl ⟨by omega, ?_⟩⟩
  rw [e3, e1, r, hw, bi, hx, e, show we.toNatClampNeg + 1 - p = (we.toNatClampNeg - p) + 1 by omega]
  show _ = ((pkN (bNat f p) (we.toNatClampNeg - p) * 256 + (f (p + (we.toNatClampNeg - p))).toInt.toNat : Nat) : Int)
  rw [show p + (we.toNatClampNeg - p) = we.toNatClampNeg by omega]
  omega
def wdV (f : Nat → Int32) (n p : Nat) : Int := if rnN f n 0 p ≤ p + 8 then ((pkN (bNat f p) (rnN f n 0 p - p) : Nat) : Int) else 0
theorem Wk_e {f : Nat → Int32} {sz we : Int32} {p : Nat} {w : Int64} (h : Wk f sz p we w) (he : we.toInt = sz.toInt ∨ ¬ kdN f sz.toNatClampNeg we.toNatClampNeg = 0) : we.toInt = ((rnN f sz.toNatClampNeg 0 p : Nat) : Int) ∧ ((we.toInt ≤ (p : Int) + 8 ∧ w.toInt = wdV f sz.toNatClampNeg p) ∨ ((p : Int) + 8 < we.toInt ∧ wdV f sz.toNatClampNeg p = 0)) := by
  obtain ⟨h1, h2, h3, h4⟩ := h
  have c := cl_int (x := we) (by omega)
  have cs := cl_int (x := sz) (by omega)
  have r : rnN f sz.toNatClampNeg 0 p = we.toNatClampNeg := rn_eq (by omega) (by omega) h3 (by rcases he with z | z; exact Or.inl (by omega); exact Or.inr z)
  unfold wdV
  rw [r]
  refine ⟨by omega, ?_⟩
  rcases h4 with h4 | h4
  · left; rw [if_pos (by omega)]; exact h4
  · right; rw [if_neg (by omega)]; exact ⟨h4.1, rfl⟩
theorem wd_cd {f : Nat → Int32} {n p w : Nat} {c : Int} (hp : p ≤ n) (hw : w < 13) (hc : c = ((wcL.getD w 0 : Nat) : Int)) : wdV f n p = c ↔ cdN f n p = (w : Int) := by
  rw [cd_w hp hw, wd_sp hp hw, hc]
  have q := wc_pos w hw
  unfold wdV
  split
  · constructor
    · intro h; exact ⟨by assumption, by omega⟩
    · intro h; have := h.2; omega
  · constructor
    · intro h; omega
    · intro h; exact absurd h.1 (by assumption)
theorem lcmp_eq {a b : Int64} {n : Int32} (e : n = lg_cmp a b) : (n.toInt = 0 ∧ a.toInt = b.toInt) ∨ (¬ n.toInt = 0 ∧ ¬ a.toInt = b.toInt) := by
  rw [e]
  by_cases h : a = b
  · left
    subst h
    refine ⟨?_, rfl⟩
    unfold lg_cmp
    simp
  · right
    refine ⟨?_, fun q => h (Int64.toInt_inj.mp q)⟩
    unfold lg_cmp
    split
    · decide
    · simp [h]
theorem en_w {f : Nat → Int32} {n p w : Nat} (hp : p ≤ n) (hw : w < 13) (h : cdN f n p = (w : Int)) : p < n ∧ enN f n p = rnN f n 0 p := by
  have k := sp_kd hw ((cd_w hp hw).mp h)
  refine ⟨k.2, ?_⟩
  unfold enN
  rw [if_neg (by omega), k.1]
theorem Nb_p {f : Nat → Int32} {sz a : Int32} {p : Nat} (h : Nb f sz a p) : p ≤ sz.toNatClampNeg := h.2.2.2.1
theorem Nb_w {f : Nat → Int32} {sz a a2 : Int32} {p w : Nat} (h : Nb f sz a p) (hw : w < 13) (hc : cdN f sz.toNatClampNeg p = (w : Int)) (e : a2.toInt = ((rnN f sz.toNatClampNeg 0 p : Nat) : Int)) : Nb f sz a2 (tkP (w : Int) f sz.toNatClampNeg p) := by
  obtain ⟨k1, k2⟩ := en_w (Nb_p h) hw hc
  rw [tkq_t hc]
  exact Nb_nx h k1 (by rw [k2]; exact e)
theorem sg_all {f : Nat → Int32} {sz a : Int32} {p : Nat} (h : a.toInt = (p : Int)) (hs : a.toInt < sz.toInt) : (59 ≤ (f a.toNatClampNeg).toInt ∧ (f a.toNatClampNeg).toInt ≤ 62 ∧ cdN f sz.toNatClampNeg p = (f a.toNatClampNeg).toInt ∧ enN f sz.toNatClampNeg p = p + 1 ∧ p < sz.toNatClampNeg) ∨ (¬ (59 ≤ (f a.toNatClampNeg).toInt ∧ (f a.toNatClampNeg).toInt ≤ 62) ∧ ¬ (59 ≤ cdN f sz.toNatClampNeg p ∧ cdN f sz.toNatClampNeg p ≤ 62)) := by
  have ca := cl_n h
  have cs := cl_int (x := sz) (by omega)
  have hp : p < sz.toNatClampNeg := by omega
  rw [ca]
  have k := kd_in (f := f) hp
  have ck := ck_all (f p).toInt
  rw [← k] at ck
  by_cases q : 59 ≤ (f p).toInt ∧ (f p).toInt ≤ 62
  · have k2 : kdN f sz.toNatClampNeg p = 2 := by omega
    left
    refine ⟨q.1, q.2, ?_, if_pos k2, hp⟩
    unfold cdN
    rw [if_neg (by omega), if_neg (by omega), if_pos k2]
    unfold csN
    rw [if_pos (by omega)]
  · right
    refine ⟨q, ?_⟩
    intro z
    unfold cdN at z
    by_cases a0 : kdN f sz.toNatClampNeg p = 0
    · rw [if_pos a0] at z
      have := fw_b (f := f) (n := sz.toNatClampNeg) (p := p) 13
      omega
    · rw [if_neg a0] at z
      by_cases a1 : kdN f sz.toNatClampNeg p = 1
      · rw [if_pos a1] at z
        have := cn_b hp a1
        omega
      · rw [if_neg a1] at z
        by_cases a2 : kdN f sz.toNatClampNeg p = 2
        · rw [if_pos a2] at z
          have := cs_b (f p).toInt
          omega
        · rw [if_neg a2] at z; omega
/-! the reference's statement: how many tests are made, and where -/
def Mv (e : Nat → Int32) (s : Int32) (k : Nat) : Prop := (e s.toNatClampNeg).toInt = (k : Int)
theorem Mv_ld {e : Nat → Int32} {s x : Int32} {k : Nat} (h : Mv e s k) (ex : x = e s.toNatClampNeg) : x.toInt = (k : Int) := by rw [ex]; exact h
theorem Mv_u {e e2 : Nat → Int32} {s x : Int32} {k : Nat} (u : upd e s.toNatClampNeg x = e2) (hx : x.toInt = (k : Int)) : Mv e2 s k := by
  subst u; unfold Mv; rw [show upd e s.toNatClampNeg x s.toNatClampNeg = x from if_pos rfl]; exact hx
theorem ts_m {f : Nat → Int32} {n m p : Nat} : tsB f n (m + 1) p = if teB f n p = 1 then (if cdN f n (teP f n p) = 9 then tsB f n m (nxN f n (teP f n p)) else 1) else 0 := rfl
theorem tp_m {f : Nat → Int32} {n m p : Nat} : tsP f n (m + 1) p = if teB f n p = 1 then (if cdN f n (teP f n p) = 9 then tsP f n m (nxN f n (teP f n p)) else teP f n p) else teP f n p := rfl
def Tq (f : Nat → Int32) (n P p k : Nat) : Prop := k ≤ 3 ∧ tsB f n 3 P = tsB f n (3 - k) p ∧ tsP f n 3 P = tsP f n (3 - k) p
theorem Tq_0 {f : Nat → Int32} {n P : Nat} : Tq f n P P 0 := ⟨by omega, rfl, rfl⟩
theorem Tq_b {f : Nat → Int32} {n P p k : Nat} (h : Tq f n P p k) : k ≤ 3 := h.1
theorem Tq_s {f : Nat → Int32} {n P p k : Nat} (h : Tq f n P p k) (hk : k < 3) (ht : teB f n p = 1) (hc : cdN f n (teP f n p) = 9) : Tq f n P (nxN f n (teP f n p)) (k + 1) := by
  obtain ⟨_, h2, h3⟩ := h
  have e : 3 - k = (3 - (k + 1)) + 1 := by omega
  rw [e, ts_m (m := 3 - (k + 1)) (p := p), if_pos ht, if_pos hc] at h2
  rw [e, tp_m (m := 3 - (k + 1)) (p := p), if_pos ht, if_pos hc] at h3
  exact ⟨by omega, h2, h3⟩
theorem Tq_f {f : Nat → Int32} {n P p k : Nat} (h : Tq f n P p k) (hk : k < 3) (ht : ¬ teB f n p = 1) : tsB f n 3 P = 0 ∧ tsP f n 3 P = teP f n p := by
  obtain ⟨_, h2, h3⟩ := h
  have e : 3 - k = (3 - (k + 1)) + 1 := by omega
  rw [e, ts_m (m := 3 - (k + 1)) (p := p), if_neg ht] at h2
  rw [e, tp_m (m := 3 - (k + 1)) (p := p), if_neg ht] at h3
  exact ⟨h2, h3⟩
theorem Tq_3 {f : Nat → Int32} {n P p k : Nat} (h : Tq f n P p k) (hk : k = 3) : tsB f n 3 P = 0 ∧ tsP f n 3 P = p := by
  subst hk; exact ⟨h.2.1, h.2.2⟩
theorem Tq_e {f : Nat → Int32} {n P p k : Nat} (h : Tq f n P p k) (hk : k < 3) (ht : teB f n p = 1) (hc : ¬ cdN f n (teP f n p) = 9) : tsB f n 3 P = 1 ∧ tsP f n 3 P = teP f n p := by
  obtain ⟨_, h2, h3⟩ := h
  have e : 3 - k = (3 - (k + 1)) + 1 := by omega
  rw [e, ts_m (m := 3 - (k + 1)) (p := p), if_pos ht, if_neg hc] at h2
  rw [e, tp_m (m := 3 - (k + 1)) (p := p), if_pos ht, if_neg hc] at h3
  exact ⟨h2, h3⟩
/-- the reference's statement when k statements are made -/
noncomputable def snB (k : Int) (f : Nat → Int32) (n p : Nat) : Int := if k = 16 then 0 else smB f n p
noncomputable def snP (k : Int) (f : Nat → Int32) (n p : Nat) : Nat := if k = 16 then p else smP f n p
theorem sn_1 {k : Int} {f : Nat → Int32} {n p : Nat} (h : snB k f n p = 1) : ¬ k = 16 ∧ smB f n p = 1 ∧ snP k f n p = smP f n p := by
  unfold snB at h; unfold snP; split at h
  · omega
  · rename_i q; exact ⟨q, h, if_neg q⟩
def Rq (ri : Int32) (f : Nat → Int32) (tl : Int32) (P0 : Nat) (nr : Int32) (p : Nat) : Prop := ri.toInt = 1 → Rr f tl P0 nr nr p
theorem Rq_0 {ri : Int32} {f : Nat → Int32} {tl : Int32} {P0 : Nat} : Rq ri f tl P0 0 P0 := fun _ => Rr_0 (by decide)
theorem Rq_no {ri : Int32} {f : Nat → Int32} {tl nr : Int32} {P0 p : Nat} (h : ¬ ri.toInt = 1) : Rq ri f tl P0 nr p := fun q => absurd q h
theorem Rq_s {ri ri2 : Int32} {f : Nat → Int32} {tl nr nr2 : Int32} {P0 p : Nat} (h : Rq ri f tl P0 nr p) (h1 : ri.toInt = 1) (hp : p < tl.toNatClampNeg) (hs : smB f tl.toNatClampNeg p = 1) (hi : nr.toInt < 16 ∧ nr2.toInt = nr.toInt + 1) : Rq ri2 f tl P0 nr2 (smP f tl.toNatClampNeg p) := fun _ => Rr_s (h h1) hp hs ⟨hi.1, hi.2, hi.2⟩
theorem Rq_d {ri : Int32} {f : Nat → Int32} {tl nr : Int32} {P0 p : Nat} (h : Rq ri f tl P0 nr p) (h1 : ri.toInt = 1) (hp : p < tl.toNatClampNeg) (hb : snB nr.toInt f tl.toNatClampNeg p = 0 ∨ snB nr.toInt f tl.toNatClampNeg p = 1) : snB nr.toInt f tl.toNatClampNeg p = 1 ∨ (rdB f tl.toNatClampNeg 16 P0 = 0 ∧ rdP f tl.toNatClampNeg 16 P0 = snP nr.toInt f tl.toNatClampNeg p) := by
  rcases hb with hb | hb
  · right
    have r := h h1
    unfold snB at hb; unfold snP
    split at hb
    · rename_i q; rw [if_pos q]; exact Rr_16 r q hp
    · rename_i q; rw [if_neg q]; exact Rr_f r hp hb (by have := r.2.1; omega)
  · left; exact hb
theorem Rq_e {ri : Int32} {f : Nat → Int32} {tl nr : Int32} {P0 p : Nat} (h : Rq ri f tl P0 nr p) (h1 : ri.toInt = 1) (hp : ¬ p < tl.toNatClampNeg) : rdB f tl.toNatClampNeg 16 P0 = 1 ∧ rdP f tl.toNatClampNeg 16 P0 = p ∧ rdC f tl.toNatClampNeg 16 P0 = nr.toInt := Rr_e (h h1) hp
theorem Tx_0 {e f : Nat → Int32} : Tx e f 0 := fun k h => by rw [show (0 : Int32).toInt = 0 from by decide] at h; omega
theorem Tx_s {e e2 f : Nat → Int32} {i i2 x : Int32} (h : Tx e f i) (u : upd e i.toNatClampNeg x = e2) (hx : x = f i.toNatClampNeg) (hi : 0 ≤ i.toInt ∧ i2.toInt = i.toInt + 1) : Tx e2 f i2 := by
  intro k hk
  subst u
  by_cases q : k = i.toNatClampNeg
  · subst q; rw [show upd e i.toNatClampNeg x i.toNatClampNeg = x from if_pos rfl]; exact hx
  · rw [show upd e i.toNatClampNeg x k = e k from if_neg q]
    have c := cl_int (x := i) hi.1
    exact h k (by omega)
theorem Tx_n {e f : Nat → Int32} {i j : Int32} (h : Tx e f i) (e2 : j.toInt ≤ i.toInt) : Tx e f j := fun k hk => h k (by omega)
/-! a feed's bytes -/
def Bn (f : Nat → Int32) : Prop := ∀ k : Nat, vp_nar .byte (f k) = f k
theorem Bn_0 : Bn (fun _ => 0) := fun _ => (by decide : vp_nar .byte (0 : Int32) = 0)
theorem nar_2 (y : Int32) : vp_nar .byte (vp_nar .byte y) = vp_nar .byte y := by
  show ((y.toInt8.toInt32).toInt8.toInt32 : Int32) = y.toInt8.toInt32
  simp
theorem Bn_u {f : Nat → Int32} {a : Nat} {y : Int32} (h : Bn f) : Bn (upd f a (vp_nar .byte y)) := by
  intro k
  by_cases q : k = a
  · subst q; rw [show upd f k (vp_nar .byte y) k = vp_nar .byte y from if_pos rfl]; exact nar_2 y
  · rw [show upd f a (vp_nar .byte y) k = f k from if_neg q]; exact h k
theorem nar_ld {f : Nat → Int32} {k : Nat} {x : Int32} (h : Bn f) (e : x = f k) : vp_nar .byte x = f k := by rw [e]; exact h k
def byF (x k : Int32) : Int32 := (x >>> (k &&& 31)).toInt8.toInt32
theorem byR {x k y z : Int32} (e1 : y = x >>> (k &&& 31)) (e2 : z = y.toInt8.toInt32) : z = byF x k := by subst e1; exact e2
theorem byC {x k y z : Int32} (e1 : y = (x.toUInt32 >>> (k.toUInt32 &&& Int32.toUInt32 31)).toInt32) (e2 : z = y.toInt8.toInt32) (hk : k = 24 ∨ k = 16 ∨ k = 8 ∨ k = 0) : z = byF x k := by subst e1; rw [e2]; exact by_eq x k hk
def apF (f : Nat → Int32) (a : Nat) (x : Int32) : Nat → Int32 := upd (upd (upd (upd f a (vp_nar .byte (byF x 24))) (a + 1) (vp_nar .byte (byF x 16))) (a + 2) (vp_nar .byte (byF x 8))) (a + 3) (vp_nar .byte (byF x 0))
def Ap (w f : Nat → Int32) (t x : Int32) : Prop := t.toInt + 4 ≤ 600 → w = apF f t.toNatClampNeg x
theorem Ap_no {w f : Nat → Int32} {t x : Int32} (h : ¬ t.toInt + 4 ≤ 600) : Ap w f t x := fun q => absurd q h
theorem Ap_4 {f g1 g2 g3 g4 : Nat → Int32} {t t1 t2 t3 x y1 y2 y3 y4 : Int32} (u1 : upd f t.toNatClampNeg (vp_nar .byte y1) = g1) (u2 : upd g1 t1.toNatClampNeg (vp_nar .byte y2) = g2) (u3 : upd g2 t2.toNatClampNeg (vp_nar .byte y3) = g3) (u4 : upd g3 t3.toNatClampNeg (vp_nar .byte y4) = g4) (h : 0 ≤ t.toInt ∧ t1.toInt = t.toInt + 1 ∧ t2.toInt = t.toInt + 2 ∧ t3.toInt = t.toInt + 3) (e1 : y1 = byF x 24) (e2 : y2 = byF x 16) (e3 : y3 = byF x 8) (e4 : y4 = byF x 0) : Ap g4 f t x := by
  intro _
  obtain ⟨h0, h1, h2, h3⟩ := h
  have c := cl_int (x := t) h0
  have c1 : t1.toNatClampNeg = t.toNatClampNeg + 1 := by have := cl_int (x := t1) (by omega); omega
  have c2 : t2.toNatClampNeg = t.toNatClampNeg + 2 := by have := cl_int (x := t2) (by omega); omega
  have c3 : t3.toNatClampNeg = t.toNatClampNeg + 3 := by have := cl_int (x := t3) (by omega); omega
  subst e1 e2 e3 e4 u1 u2 u3 u4
  rw [c1, c2, c3]; rfl
def feF (f : Nat → Int32) (a : Nat) (v1 v2 v3 v4 v5 : Int32) : Nat → Int32 := apF (apF (apF (apF (apF f a v1) (a + 4) v2) (a + 8) v3) (a + 12) v4) (a + 16) v5
def Fdd (w f : Nat → Int32) (t v1 v2 v3 v4 v5 : Int32) : Prop := (t.toInt + 20 ≤ 600 ∧ w = feF f t.toNatClampNeg v1 v2 v3 v4 v5) ∨ (¬ t.toInt + 20 ≤ 600 ∧ w = f)
theorem Fdd_no {f : Nat → Int32} {t v1 v2 v3 v4 v5 : Int32} (h : ¬ t.toInt + 20 ≤ 600) : Fdd f f t v1 v2 v3 v4 v5 := Or.inr ⟨h, rfl⟩
theorem Fdd_5 {f g1 g2 g3 g4 g5 : Nat → Int32} {t t1 t2 t3 t4 v1 v2 v3 v4 v5 : Int32} (a1 : Ap g1 f t v1) (a2 : Ap g2 g1 t1 v2) (a3 : Ap g3 g2 t2 v3) (a4 : Ap g4 g3 t3 v4) (a5 : Ap g5 g4 t4 v5) (h : 0 ≤ t.toInt ∧ t.toInt + 20 ≤ 600 ∧ t1.toInt = t.toInt + 4 ∧ t2.toInt = t.toInt + 8 ∧ t3.toInt = t.toInt + 12 ∧ t4.toInt = t.toInt + 16) : Fdd g5 f t v1 v2 v3 v4 v5 := by
  obtain ⟨h0, hr, h1, h2, h3, h4⟩ := h
  have c := cl_int (x := t) h0
  have c1 : t1.toNatClampNeg = t.toNatClampNeg + 4 := by have := cl_int (x := t1) (by omega); omega
  have c2 : t2.toNatClampNeg = t.toNatClampNeg + 8 := by have := cl_int (x := t2) (by omega); omega
  have c3 : t3.toNatClampNeg = t.toNatClampNeg + 12 := by have := cl_int (x := t3) (by omega); omega
  have c4 : t4.toNatClampNeg = t.toNatClampNeg + 16 := by have := cl_int (x := t4) (by omega); omega
  have b1 := a1 (by omega); have b2 := a2 (by omega); have b3 := a3 (by omega); have b4 := a4 (by omega); have b5 := a5 (by omega)
  refine Or.inl ⟨hr, ?_⟩
  rw [b5, b4, b3, b2, b1, c1, c2, c3, c4]; rfl
theorem Fdd_eq {w u f : Nat → Int32} {t v1 v2 v3 v4 v5 : Int32} (a : Fdd w f t v1 v2 v3 v4 v5) (b : Fdd u f t v1 v2 v3 v4 v5) : w = u := by
  rcases a with ⟨a1, a2⟩ | ⟨a1, a2⟩ <;> rcases b with ⟨b1, b2⟩ | ⟨b1, b2⟩
  · rw [a2, b2]
  · exact absurd a1 b1
  · exact absurd b1 a1
  · rw [a2, b2]
theorem Bn_ap {f : Nat → Int32} {a : Nat} {x : Int32} (h : Bn f) : Bn (apF f a x) := Bn_u (Bn_u (Bn_u (Bn_u h)))
theorem Bn_fd {w f : Nat → Int32} {t v1 v2 v3 v4 v5 : Int32} (h : Bn f) (a : Fdd w f t v1 v2 v3 v4 v5) : Bn w := by
  rcases a with ⟨_, a2⟩ | ⟨_, a2⟩
  · rw [a2]; exact Bn_ap (Bn_ap (Bn_ap (Bn_ap (Bn_ap h))))
  · rw [a2]; exact h
theorem Nb_w5 {f : Nat → Int32} {sz a a2 : Int32} {p : Nat} (h : Nb f sz a p) (hc : 0 ≤ cdN f sz.toNatClampNeg p ∧ cdN f sz.toNatClampNeg p ≤ 5) (e : a2.toInt = ((rnN f sz.toNatClampNeg 0 p : Nat) : Int)) : Nb f sz a2 (nxN f sz.toNatClampNeg p) := by
  have hw : cdN f sz.toNatClampNeg p = (((cdN f sz.toNatClampNeg p).toNat : Nat) : Int) := (Int.toNat_of_nonneg hc.1).symm
  exact Nb_e (Nb_w h (w := (cdN f sz.toNatClampNeg p).toNat) (by omega) hw e) (tkq_t hw)
def Mw (e : Nat → Int32) (s : Int32) (c : Int) : Prop := ((e s.toNatClampNeg).toInt = 1 ∧ c = 6) ∨ ((e s.toNatClampNeg).toInt = 0 ∧ c = 12)
theorem Mw_1 {e e2 : Nat → Int32} {s : Int32} {c : Int} (u : upd e s.toNatClampNeg (vp_nar .boolean 1) = e2) (hc : c = 6) : Mw e2 s c := by
  subst u; left; refine ⟨?_, hc⟩; rw [show upd e s.toNatClampNeg (vp_nar .boolean 1) s.toNatClampNeg = vp_nar .boolean 1 from if_pos rfl]; decide
theorem Mw_0 {e e2 : Nat → Int32} {s : Int32} {c : Int} (u : upd e s.toNatClampNeg (vp_nar .boolean 0) = e2) (hc : c = 12) : Mw e2 s c := by
  subst u; right; refine ⟨?_, hc⟩; rw [show upd e s.toNatClampNeg (vp_nar .boolean 0) s.toNatClampNeg = vp_nar .boolean 0 from if_pos rfl]; decide
theorem Mw_ld {e : Nat → Int32} {s x : Int32} {c : Int} (h : Mw e s c) (ex : x = e s.toNatClampNeg) : (x.toInt = 1 ∧ c = 6) ∨ (x.toInt = 0 ∧ c = 12) := by rw [ex]; exact h
