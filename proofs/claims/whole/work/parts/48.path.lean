/-! the path on both sides -/
def evl (b : Nat) : List Nat → Nat
  | [] => 0
  | c :: r => evl b r * b + c
theorem evl_enc (b : Nat) : ∀ r : List Nat, evl b r = enc b r.reverse
  | [] => rfl
  | c :: r => by rw [List.reverse_cons, enc_snoc, ← evl_enc b r]; rfl
theorem evl_lt {b : Nat} : ∀ (r : List Nat) (n : Nat), r.length ≤ n → (∀ c ∈ r, c < b) → 0 < b → evl b r < b ^ n
  | [], n, _, _, hb => Nat.pow_pos hb
  | c :: r, 0, h, _, _ => by simp at h
  | c :: r, n + 1, h, hc, hb => by
    have i := evl_lt r n (by simp at h; omega) (fun x hx => hc x (List.mem_cons_of_mem _ hx)) hb
    have c1 := hc c List.mem_cons_self
    show evl b r * b + c < b ^ (n + 1)
    rw [Nat.pow_succ]
    have : (evl b r + 1) * b ≤ b ^ n * b := Nat.mul_le_mul_right b i
    rw [Nat.add_mul, Nat.one_mul] at this
    omega
/-- characters written from the end -/
def wl : List Nat → Nat → (Nat → Int32) → Nat × (Nat → Int32)
  | [], s, f => (s, f)
  | c :: r, s, f => wl r (s - 1) (upd f (s - 1) (nI c))
def okR (r : List Nat) : Prop := r.length ≤ 6 ∧ ∀ c ∈ r, 33 ≤ c ∧ c ≤ 126
theorem lN_ne0 {v : Nat} (h : v < 2 ^ 62) (h0 : 0 < v) : ¬ lN v = lN 0 := by
  intro e
  have : (lN v).toBitVec.toNat = (lN 0).toBitVec.toNat := congrArg (fun x : Int64 => x.toBitVec.toNat) e
  rw [wb_tn (by omega), wb_tn (by decide)] at this
  omega
theorem us_lN {v : Nat} (h : v < 2 ^ 62) : usI (lN v) = lN (v / 256) := by unfold usI; exact wb_shr (k := 8) (by omega) (by decide)
theorem ch_lN {v : Nat} (h : v < 2 ^ 62) : chI (lN v) = nI (v % 256) := by
  unfold chI
  rw [show (255 : Nat) = 2 ^ 8 - 1 from rfl, wb_mask (by omega) (by decide), lN_i]
  have h2 : v % 2 ^ 8 < 256 := Nat.mod_lt _ (by decide)
  rw [pk_char, show (nI (v % 2 ^ 8)).toBitVec.toNat = v % 2 ^ 8 from by
    show (BitVec.ofNat 32 _).toNat = _
    rw [BitVec.toNat_ofNat, Nat.mod_eq_of_lt (by omega)], Nat.mod_eq_of_lt (by omega)]
theorem pnb_wl : ∀ (r : List Nat) (n s : Nat) (f : Nat → Int32), r.length ≤ n → n ≤ 6 → (∀ c ∈ r, 33 ≤ c ∧ c ≤ 126) → pnb n (lN (evl 256 r)) s f = wl r s f
  | [], n, s, f, _, _, _ => pnb_0 rfl
  | c :: r, 0, s, f, h, _, _ => by simp at h
  | c :: r, n + 1, s, f, h, h6, hc => by
    have c1 := hc c List.mem_cons_self
    have hr : ∀ x ∈ r, 33 ≤ x ∧ x ≤ 126 := fun x hx => hc x (List.mem_cons_of_mem _ hx)
    have hl := evl_lt (b := 256) (c :: r) 6 (by omega) (fun x hx => by have := hc x hx; omega) (by decide)
    have e : evl 256 (c :: r) = evl 256 r * 256 + c := rfl
    have hs := pnb_s (n := n + 1) (k := 0) (st := s) (z := lN (evl 256 (c :: r))) (f := f) (by omega) (lN_ne0 (by omega) (by omega))
    rw [Nat.sub_zero, Nat.zero_add, Nat.add_sub_cancel] at hs
    rw [hs, us_lN (by omega), ch_lN (by omega), show evl 256 (c :: r) / 256 = evl 256 r by omega, show evl 256 (c :: r) % 256 = c by omega]
    exact pnb_wl r n _ _ (by simp at h; omega) (by omega) hr
theorem wrN_wl : ∀ (r : List Nat) (n s : Nat) (f : Nat → Int32), r.length ≤ n → (∀ c ∈ r, 33 ≤ c ∧ c ≤ 126) → wrN n s (evl 128 r) f = wl r s f
  | [], n, s, f, _, _ => wrN_0
  | c :: r, 0, s, f, h, _ => by simp at h
  | c :: r, n + 1, s, f, h, hc => by
    have c1 := hc c List.mem_cons_self
    have e : evl 128 (c :: r) = evl 128 r * 128 + c := rfl
    show (if evl 128 (c :: r) = 0 then (s, f) else wrN n (s - 1) (evl 128 (c :: r) / 128) (upd f (s - 1) (nI (evl 128 (c :: r) % 128)))) = wl r (s - 1) (upd f (s - 1) (nI c))
    rw [if_neg (by omega), show evl 128 (c :: r) / 128 = evl 128 r by omega, show evl 128 (c :: r) % 128 = c by omega]
    exact wrN_wl r n _ _ (by simp at h; omega) (fun x hx => hc x (List.mem_cons_of_mem _ hx))
theorem chN_len : ∀ (r : List Nat) (n : Nat), r.length ≤ n → (∀ c ∈ r, 33 ≤ c ∧ c ≤ 126) → chN n (evl 128 r) = r.length
  | [], n, _, _ => chN_0
  | c :: r, 0, h, _ => by simp at h
  | c :: r, n + 1, h, hc => by
    have c1 := hc c List.mem_cons_self
    have e : evl 128 (c :: r) = evl 128 r * 128 + c := rfl
    show (if evl 128 (c :: r) = 0 then 0 else chN n (evl 128 (c :: r) / 128) + 1) = r.length + 1
    rw [if_neg (by omega), show evl 128 (c :: r) / 128 = evl 128 r by omega, chN_len r n (by simp at h; omega) (fun x hx => hc x (List.mem_cons_of_mem _ hx))]
theorem wl_1 : ∀ (r : List Nat) (s : Nat) (f : Nat → Int32), (wl r s f).1 = s - r.length
  | [], s, f => rfl
  | c :: r, s, f => by
    show (wl r (s - 1) _).1 = s - (r.length + 1)
    rw [wl_1 r]; omega
/-- the same text, d further on -/
def SH (d T : Nat) (a b : Nat × (Nat → Int32)) : Prop := b.1 = a.1 + d ∧ ∀ j, a.1 ≤ j → j < T → a.2 j = b.2 (j + d) ∧ okT (a.2 j)
theorem sh_one {d T s s' c : Nat} {f f' : Nat → Int32} (h : SH d T (s, f) (s', f')) (h1 : 1 ≤ s) (hc : 33 ≤ c ∧ c ≤ 126) : SH d T (s - 1, upd f (s - 1) (nI c)) (s' - 1, upd f' (s' - 1) (nI c)) := by
  obtain ⟨a, b⟩ := h
  dsimp only at a b
  subst a
  refine ⟨by show s + d - 1 = s - 1 + d; omega, fun j hj hT => ?_⟩
  dsimp only at hj ⊢
  by_cases e : j = s - 1
  · rw [e, updS, show s - 1 + d = s + d - 1 by omega, updS]; exact ⟨rfl, c, hc.1, hc.2, rfl⟩
  · rw [updN e, updN (by omega)]; exact b j (by omega) hT
theorem sh_wl {d T : Nat} : ∀ (r : List Nat) (s s' : Nat) (f f' : Nat → Int32), SH d T (s, f) (s', f') → r.length ≤ s → (∀ c ∈ r, 33 ≤ c ∧ c ≤ 126) → SH d T (wl r s f) (wl r s' f')
  | [], s, s', f, f', h, _, _ => h
  | c :: r, s, s', f, f', h, hl, hc => by
    have hl : r.length + 1 ≤ s := hl
    exact sh_wl r _ _ _ _ (sh_one h (by omega) (hc c List.mem_cons_self)) (by omega) (fun x hx => hc x (List.mem_cons_of_mem _ hx))
def pw (rr : Nat → List Nat) (T : Nat) (f : Nat → Int32) : Nat → Nat × (Nat → Int32)
  | 0 => (T, f)
  | k + 1 => ((wl (rr k) (pw rr T f k).1 (pw rr T f k).2).1 - 1, upd (wl (rr k) (pw rr T f k).1 (pw rr T f k).2).2 ((wl (rr k) (pw rr T f k).1 (pw rr T f k).2).1 - 1) (nI 47))
abbrev lnL (rr : Nat → List Nat) : Nat → Nat := fun k => (rr k).length
theorem pw_1 {rr : Nat → List Nat} {T : Nat} {f : Nat → Int32} : ∀ k, (pw rr T f k).1 = T - sP (lnL rr) k
  | 0 => rfl
  | k + 1 => by
    show (wl (rr k) (pw rr T f k).1 (pw rr T f k).2).1 - 1 = T - (sP (lnL rr) k + 1 + (rr k).length)
    rw [wl_1, pw_1 k]; omega
theorem pw_sh {rr : Nat → List Nat} {d T : Nat} {f f' : Nat → Int32} : ∀ k, sP (lnL rr) k ≤ T → (∀ i, i < k → okR (rr i)) → SH d T (pw rr T f k) (pw rr (T + d) f' k)
  | 0, _, _ => ⟨rfl, fun j hj hT => by have hj : T ≤ j := hj; omega⟩
  | k + 1, h, ho => by
    have h2 : sP (lnL rr) k + 1 + (rr k).length ≤ T := h
    have ih := pw_sh (rr := rr) (d := d) (T := T) (f := f) (f' := f') k (by omega) (fun i hi => ho i (by omega))
    have p1 := pw_1 (rr := rr) (T := T) (f := f) k
    have w := sh_wl (rr k) _ _ _ _ ih (by omega) (ho k (by omega)).2
    have w1 := wl_1 (rr k) (pw rr T f k).1 (pw rr T f k).2
    exact sh_one (s := (wl (rr k) (pw rr T f k).1 (pw rr T f k).2).1) w (by omega) (by decide)
theorem pwR_pw {vv : Nat → Nat} {rr : Nat → List Nat} {T : Nat} {f : Nat → Int32} : ∀ k, (∀ i, i < k → okR (rr i) ∧ vv i = evl 128 (rr i)) → pwR vv T f k = pw rr T f k
  | 0, _ => rfl
  | k + 1, h => by
    have ih := pwR_pw (vv := vv) (rr := rr) (T := T) (f := f) k (fun i hi => h i (by omega))
    obtain ⟨h1, h2⟩ := h k (by omega)
    show ((wrN 6 (pwR vv T f k).1 (vv k) (pwR vv T f k).2).1 - 1, upd (wrN 6 (pwR vv T f k).1 (vv k) (pwR vv T f k).2).2 ((wrN 6 (pwR vv T f k).1 (vv k) (pwR vv T f k).2).1 - 1) (nI 47)) = _
    rw [ih, h2, wrN_wl _ 6 _ _ h1.1 h1.2]
    rfl
theorem sP_cg {c1 c2 : Nat → Nat} : ∀ k, (∀ i, i < k → c1 i = c2 i) → sP c1 k = sP c2 k
  | 0, _ => rfl
  | k + 1, h => by
    show sP c1 k + 1 + c1 k = sP c2 k + 1 + c2 k
    rw [sP_cg k (fun i hi => h i (by omega)), h k (by omega)]
theorem sP_up {ch : Nat → Nat} {a b : Nat} (h : a < b) : sP ch a + 1 + ch a ≤ sP ch b := sP_mono (ch := ch) (a := a + 1) h
/-- the class's loop -/
theorem ptL_pw {pF rF cF : Nat → Int32} {vn : Nat} {nF : Nat → Int64} {bF : Nat → Int32} {ec nn : Nat} {ro : Int32} {X : Nat → Int32} {rr : Nat → List Nat} {zf : Nat → Int32} (hXs : ∀ k, k < nn → X (k + 1) = abvC rF cF pF vn (X k) ro) (hXn : X nn = ro) (hXr : ∀ k, k < nn → ¬ X k = ro) (hr : ∀ k, k < nn → okR (rr k) ∧ nfL bF nF ec (grdC rF cF vn 4 (X k)) = lN (evl 256 (rr k))) : ∀ (n k : Nat), k ≤ nn → nn ≤ k + n → (k = 0 ∨ sP (lnL rr) k ≤ 40) → ptL pF rF cF vn nF bF ec ro n (X k) (pw rr 60 zf k).1 (pw rr 60 zf k).2 = if nn = 0 ∨ sP (lnL rr) nn ≤ 40 then some (pw rr 60 zf nn) else none := by
  intro n
  induction n with
  | zero =>
    intro k h1 h2 h3
    have e : k = nn := by omega
    subst e
    rw [ptL_r hXn, if_pos h3]
  | succ n ih =>
    intro k h1 h2 h3
    by_cases e : k = nn
    · subst e
      rw [ptL_r hXn, if_pos h3]
    · obtain ⟨o1, o2⟩ := hr k (by omega)
      have hS : sP (lnL rr) (k + 1) = sP (lnL rr) k + 1 + (rr k).length := rfl
      have h40 : sP (lnL rr) k ≤ 40 := by
        rcases h3 with h3 | h3
        · rw [h3]; show 0 ≤ 40; omega
        · exact h3
      have hl6 := o1.1
      have eS : pnS (nfL bF nF ec (grdC rF cF vn 4 (X k))) (pw rr 60 zf k).1 (pw rr 60 zf k).2 = (pw rr 60 zf (k + 1)).1 := by
        unfold pnS; rw [o2, pnb_wl _ 6 _ _ o1.1 (by omega) o1.2]; rfl
      have eF : pnF (nfL bF nF ec (grdC rF cF vn 4 (X k))) (pw rr 60 zf k).1 (pw rr 60 zf k).2 = (pw rr 60 zf (k + 1)).2 := by
        unfold pnF; rw [o2, pnb_wl _ 6 _ _ o1.1 (by omega) o1.2]; rfl
      have p1 := pw_1 (rr := rr) (T := 60) (f := zf) (k + 1)
      by_cases hs : 40 < 60 - (pw rr 60 zf (k + 1)).1
      · have a := ptL_n (pF := pF) (rF := rF) (cF := cF) (vn := vn) (nF := nF) (bF := bF) (ec := ec) (ro := ro) (h := X k) (n := n + 1) (k := 0) (s := (pw rr 60 zf k).1) (z := (pw rr 60 zf k).2) (by omega) (hXr k (by omega)) (by rw [eS]; exact hs)
        rw [Nat.sub_zero] at a
        have up := sP_mono (ch := lnL rr) (a := k + 1) (b := nn) (by omega)
        rw [a, if_neg (by omega)]
      · have a := ptL_s (pF := pF) (rF := rF) (cF := cF) (vn := vn) (nF := nF) (bF := bF) (ec := ec) (ro := ro) (h := X k) (n := n + 1) (k := 0) (s := (pw rr 60 zf k).1) (z := (pw rr 60 zf k).2) (by omega) (hXr k (by omega)) (by rw [eS]; exact hs)
        rw [Nat.sub_zero, Nat.zero_add, Nat.add_sub_cancel, eS, eF, ← hXs k (by omega)] at a
        rw [a]
        exact ih (k + 1) (by omega) (by omega) (Or.inr (by omega))
theorem wl_okC : ∀ (r : List Nat) (s : Nat) (f : Nat → Int32), (∀ c ∈ r, 33 ≤ c ∧ c ≤ 126) → (∀ j, okC (f j)) → ∀ j, okC ((wl r s f).2 j)
  | [], s, f, _, h => h
  | c :: r, s, f, hc, h => wl_okC r _ _ (fun x hx => hc x (List.mem_cons_of_mem _ hx)) (okC_upd h (okC_n (by have := hc c List.mem_cons_self; omega)))
theorem pw_okC {rr : Nat → List Nat} {T : Nat} {f : Nat → Int32} (hf : ∀ j, okC (f j)) : ∀ k, (∀ i, i < k → okR (rr i)) → ∀ j, okC ((pw rr T f k).2 j)
  | 0, _ => hf
  | k + 1, h => okC_upd (wl_okC _ _ _ (h k (by omega)).2 (pw_okC hf k (fun i hi => h i (by omega)))) (okC_n (by decide))
/-- the two paths out of the same names -/
theorem pt_rel {rr : Nat → List Nat} {vv : Nat → Nat} {nn xn : Nat} {xf tF zf : Nat → Int32} (hx : TX xn xf tF) (hxf : ∀ j, okC (xf j)) (hzf : ∀ j, okC (zf j)) (hr : ∀ k, k < nn → okR (rr k) ∧ vv k = evl 128 (rr k)) {q : Option (Nat × (Nat → Int32))} (hq : q = if nn = 0 ∨ sP (lnL rr) nn ≤ 40 then some (pw rr 60 zf nn) else none) : (ptC xn xf q).1 = (ptR vv nn xn tF).1 ∧ (ptC xn xf q).2.1 = (ptR vv nn xn tF).2.1 ∧ TX (ptC xn xf q).2.1 (ptC xn xf q).2.2 (ptR vv nn xn tF).2.2 ∧ ∀ j, okC ((ptC xn xf q).2.2 j) := by
  have hc : sP (chV vv) nn = sP (lnL rr) nn := sP_cg nn (fun i hi => by
    obtain ⟨a, b⟩ := hr i hi
    show chN 6 (vv i) = (rr i).length
    rw [b]; exact chN_len _ 6 a.1 a.2)
  unfold ptR
  rw [hc, pwR_pw nn hr]
  by_cases h0 : nn = 0
  · rw [if_pos (Or.inl h0)] at hq
    subst h0; subst hq
    rw [if_pos rfl]
    have e : ptE (pw rr 60 zf 0) = (59, upd zf 59 (nI 47)) := rfl
    show (nI (60 - (ptE (pw rr 60 zf 0)).1) = nI 1 ∧ 60 - (ptE (pw rr 60 zf 0)).1 = 1 ∧ TX (60 - (ptE (pw rr 60 zf 0)).1) (va_cpy (ptE (pw rr 60 zf 0)).2 xf (ptE (pw rr 60 zf 0)).1 0 (60 - (ptE (pw rr 60 zf 0)).1)) (upd tF 0 (nI 47)) ∧ ∀ j, okC (va_cpy (ptE (pw rr 60 zf 0)).2 xf (ptE (pw rr 60 zf 0)).1 0 (60 - (ptE (pw rr 60 zf 0)).1) j))
    rw [e]
    refine ⟨rfl, rfl, ⟨(show (1 : Nat) ≤ 40 by omega), fun j hj => ?_⟩, okC_cpy (okC_upd hzf (okC_n (by decide))) hxf⟩
    have hj : j < 1 := hj
    have e2 : j = 0 := by omega
    subst e2
    exact ⟨rfl, 47, by decide, by decide, updS⟩
  · rw [if_neg h0]
    by_cases h4 : sP (lnL rr) nn ≤ 40
    · rw [if_pos (Or.inr h4)] at hq
      rw [if_neg (by omega)]
      subst hq
      have p1 := pw_1 (rr := rr) (T := 60) (f := zf) nn
      have pos := sP_up (ch := lnL rr) (a := 0) (b := nn) (by omega)
      have e : ptE (pw rr 60 zf nn) = pw rr 60 zf nn := if_neg (by omega)
      have e60 : 60 - (pw rr 60 zf nn).1 = sP (lnL rr) nn := by omega
      show (nI (60 - (ptE (pw rr 60 zf nn)).1) = nI (sP (lnL rr) nn) ∧ 60 - (ptE (pw rr 60 zf nn)).1 = sP (lnL rr) nn ∧ TX (60 - (ptE (pw rr 60 zf nn)).1) (va_cpy (ptE (pw rr 60 zf nn)).2 xf (ptE (pw rr 60 zf nn)).1 0 (60 - (ptE (pw rr 60 zf nn)).1)) (pw rr (sP (lnL rr) nn) tF nn).2 ∧ ∀ j, okC (va_cpy (ptE (pw rr 60 zf nn)).2 xf (ptE (pw rr 60 zf nn)).1 0 (60 - (ptE (pw rr 60 zf nn)).1) j))
      rw [e, e60]
      refine ⟨rfl, rfl, ⟨h4, fun j hj => ?_⟩, okC_cpy (pw_okC hzf nn (fun i hi => (hr i hi).1)) hxf⟩
      have sh := pw_sh (rr := rr) (d := 60 - sP (lnL rr) nn) (T := sP (lnL rr) nn) (f := tF) (f' := zf) nn (Nat.le_refl _) (fun i hi => (hr i hi).1)
      rw [show sP (lnL rr) nn + (60 - sP (lnL rr) nn) = 60 by omega] at sh
      have q1 := pw_1 (rr := rr) (T := sP (lnL rr) nn) (f := tF) nn
      have := sh.2 j (by omega) hj
      unfold va_cpy
      rw [if_pos (by omega), Nat.sub_zero, p1, show 60 - sP (lnL rr) nn + j = j + (60 - sP (lnL rr) nn) by omega]
      exact ⟨this.1.symm, this.2⟩
    · rw [if_neg (by omega)] at hq
      rw [if_pos (by omega)]
      subst hq
      exact ⟨rfl, rfl, hx, hxf⟩
def itF (up : Int32 → Int32) : Nat → Int32 → Int32
  | 0, d => d
  | k + 1, d => up (itF up k d)
theorem itF_s {up : Int32 → Int32} : ∀ (k : Nat) (d : Int32), itF up k (up d) = itF up (k + 1) d
  | 0, d => rfl
  | k + 1, d => by show up (itF up k (up d)) = up (itF up (k + 1) d); rw [itF_s k d]
theorem Gr.it {up : Int32 → Int32} {OK : Int32 → Prop} {t : Int32} : ∀ (n : Nat) (d : Int32), Gr up OK t n d → itF up n d = t ∧ ∀ k, k < n → ¬ itF up k d = t ∧ OK (itF up k d)
  | 0, d, h => ⟨h, fun k hk => by omega⟩
  | n + 1, d, h => by
    obtain ⟨a, b⟩ := Gr.it n _ h.2.2
    refine ⟨by rw [← itF_s]; exact a, fun k hk => ?_⟩
    cases k with
    | zero => exact ⟨h.1, h.2.1⟩
    | succ k => rw [← itF_s]; exact b k (by omega)
theorem scan_un {p : Nat → Bool} {n K : Nat} (hK : K < n) (h1 : p K = false) (h2 : ∀ j, j < n → p j = false → j = K) : scan p n 0 = K := by
  have a := scan_le (p := p) n 0
  have lt : scan p n 0 < 0 + n := by
    apply Classical.byContradiction
    intro hc
    have := scan_in (p := p) n 0 K (Nat.zero_le _) (by omega)
    rw [h1] at this; cases this
  exact h2 _ (by omega) (scan_at (p := p) n 0 lt)
theorem nmE_num {x y : Int64} (h : nmE x y) : ∃ r, okR r ∧ x = lN (evl 256 r) ∧ y = lN (evl 128 r) ∧ y.toBitVec.toNat = evl 128 r ∧ evl 128 r < 128 ^ 6 := by
  obtain ⟨l, hl, h1, h2⟩ := h
  have hr : okR l.reverse := ⟨by rw [List.length_reverse]; exact hl.1, fun c hc => hl.2 c (List.mem_reverse.mp hc)⟩
  have e : ∀ b, evl b l.reverse = enc b l := fun b => by rw [evl_enc, List.reverse_reverse]
  have lt := evl_lt (b := 128) l.reverse 6 hr.1 (fun c hc => by have := hr.2 c hc; omega) (by decide)
  refine ⟨l.reverse, hr, by rw [e]; exact h1, by rw [e]; exact h2, ?_, lt⟩
  rw [h2, ← e 128]
  exact wb_tn (by omega)
section PTJ
variable {kF mF oF vF pC pR rF cF xF : Nat → Int32} {vn : Nat} {dF : Nat → Int32} {nC nR : Nat → Int64} {bF : Nat → Int32} {ec : Nat} {LC LR : Nat → Nat} {LF : Nat → Nat → Int32} {us ro pr : Int32}
theorem lN_back (x : Int64) : x = lN x.toBitVec.toNat := wb_inj (by rw [wb_tb]; simp)
theorem JI.path (h : JI kF vF pC pR rF cF vn dF nC nR bF ec LC LR LF xF ro pr) : ∃ (X : Nat → Int32) (nn : Nat) (NV : Nat → Nat), X 0 = pr ∧ (∀ k, k < nn → X (k + 1) = abvR rF cF pR vn (X k) ro) ∧ X nn = ro ∧ (∀ k, k < nn → ¬ X k = ro) ∧ nn ≤ 40 ∧ (∀ k, k ≤ nn → vp_in (X k) 40) ∧ (∀ k, k < ec → nR k = lN (NV k) ∧ NV k < 128 ^ 6) ∧ ∀ (xn : Nat) (xf tF zf : Nat → Int32), TX xn xf tF → (∀ j, okC (xf j)) → (∀ j, okC (zf j)) → ∀ (r0 : Int32) (n2 : Nat) (f2 : Nat → Int32) (r0' : Int32) (n2' : Nat) (f2' : Nat → Int32), (r0, n2, f2) = ptC xn xf (ptL pC rF cF vn nC bF ec ro 40 pr 60 zf) → (r0', n2', f2') = ptR (fun k => nvD bF dF pR ec NV (grdR rF cF vn 5 (X k))) nn xn tF → r0 = r0' ∧ n2 = n2' ∧ TX n2 f2 f2' ∧ ∀ j, okC (f2 j) := by
  obtain ⟨hT, hC, hN⟩ := h
  have hM := hT.mi
  obtain ⟨c1, ⟨nn, c2⟩, -⟩ := hC
  have n39 := hT.gr39 c1 c2
  obtain ⟨i1, i2⟩ := Gr.it nn pr c2
  have ok : ∀ k, k ≤ nn → OKD kF vF cF vn (itF (upF pC rF cF vn) k pr) := fun k hk => by
    by_cases e : k = nn
    · rw [e, i1]; exact c1
    · exact (i2 k (by omega)).2
  have hT2 := hT
  obtain ⟨hvn, hec, hcr, hrr, hpr, hr, hr0, hen, hdi, -⟩ := hT2
  have aC0 : ∀ k, k < nn → itF (upF pC rF cF vn) (k + 1) pr = abvC rF cF pC vn (itF (upF pC rF cF vn) k pr) ro := fun k hk => by
    rw [abv_top (i2 k hk).1]
    exact (topC_fix (ok (k + 1) (by omega)).2).symm
  have aR0 : ∀ k, k < nn → itF (upF pC rF cF vn) (k + 1) pr = abvR rF cF pR vn (itF (upF pC rF cF vn) k pr) ro := fun k hk => by
    have g := hT.grdLD 4 _ (ok k (by omega)).1
    rw [aC0 k hk]
    exact abv_eq hvn hcr hrr hM hpr (ok k (by omega)).1.1 (hN.2.2.1 _ (vp_ix g.1) g.2.1)
  have hNV : ∀ k, k < ec → nR k = lN (nR k).toBitVec.toNat ∧ (nR k).toBitVec.toNat < 128 ^ 6 := fun k hk => by
    obtain ⟨r, -, -, -, r4, r5⟩ := nmE_num (hN.1 k hk)
    exact ⟨lN_back _, by rw [r4]; exact r5⟩
  have hname : ∀ k, k < nn → ∃ r, okR r ∧ nfL bF nC ec (grdC rF cF vn 4 (itF (upF pC rF cF vn) k pr)) = lN (evl 256 r) ∧ nvD bF dF pR ec (fun k => (nR k).toBitVec.toNat) (grdR rF cF vn 5 (itF (upF pC rF cF vn) k pr)) = evl 128 r := fun k hk => by
    have o := ok k (by omega)
    have ge := grd_eq (d := itF (upF pC rF cF vn) k pr) hvn hcr hM
    have g := hT.grdLD 4 _ o.1
    have x0 : ¬ itF (upF pC rF cF vn) k pr = nI 0 := fun e => by
      have hz : ∀ m, k ≤ m → itF (upF pC rF cF vn) m pr = nI 0 := fun m hm => by
        induction m with
        | zero => have : k = 0 := by omega
                  subst this; exact e
        | succ m ih =>
          by_cases h2 : k = m + 1
          · rw [← h2]; exact e
          · show upF pC rF cF vn (itF (upF pC rF cF vn) m pr) = nI 0
            rw [ih (by omega)]; exact hT.zeroUp
      have a := hz nn (by omega)
      rw [i1] at a
      exact (i2 k hk).1 (by rw [e, a])
    rw [← ge.1]
    have nor : ∀ v, v < vn → ¬ rF v = grdC rF cF vn 4 (itF (upF pC rF cF vn) k pr) := fun v hv => hT.grdroot o.1 x0 hv
    generalize grdC rF cF vn 4 (itF (upF pC rF cF vn) k pr) = d at g nor
    have hx := nI_ix g.1 (by decide)
    rcases hdi _ (vp_ix g.1) g.2.1 with ⟨v, hv, e⟩ | ⟨K, hK, e⟩
    · rw [← hx] at e; exact absurd e (nor v hv)
    · rw [← hx] at e
      obtain ⟨k1, k2, k3, k4, k5, k6, k7⟩ := hen K hK
      rw [e] at k7
      obtain ⟨p1, p2⟩ := k7 g.2.1
      obtain ⟨r, r1, r2, r3, r4, r5⟩ := nmE_num (hN.1 K hK)
      refine ⟨r, r1, ?_, ?_⟩
      · have s := scan_un (p := fun j => !decide (bF j = d)) (n := ec) (K := K) hK (by simp [e]) (fun j hj hp => p2 j hj (by simpa using hp))
        show rL (scan (fun j => !decide (bF j = d)) ec 0) ec nC = _
        rw [s]
        unfold rL
        rw [if_pos hK]; exact r2
      · have hpd : pR (ix d) = dF K := by rw [← hN.2.2.1 _ (vp_ix g.1) g.2.1]; exact p1
        have s := scan_un (p := fun j => !(decide (bF j = d) && decide (dF j = pR (ix d)))) (n := ec) (K := K) hK (by simp [e, hpd]) (fun j hj hp => p2 j hj (by simp at hp; exact hp.1))
        unfold nvD
        rw [s, if_pos hK]; exact r4
  have hch : ∃ rr : Nat → List Nat, ∀ k, k < nn → okR (rr k) ∧ nfL bF nC ec (grdC rF cF vn 4 (itF (upF pC rF cF vn) k pr)) = lN (evl 256 (rr k)) ∧ nvD bF dF pR ec (fun k => (nR k).toBitVec.toNat) (grdR rF cF vn 5 (itF (upF pC rF cF vn) k pr)) = evl 128 (rr k) := ⟨fun k => if hk : k < nn then Classical.choose (hname k hk) else [], fun k hk => by
    have e : (fun k => if hk : k < nn then Classical.choose (hname k hk) else []) k = Classical.choose (hname k hk) := dif_pos hk
    rw [e]; exact Classical.choose_spec (hname k hk)⟩
  obtain ⟨rr, hrr2⟩ := hch
  refine ⟨fun k => itF (upF pC rF cF vn) k pr, nn, fun k => (nR k).toBitVec.toNat, rfl, aR0, i1, fun k hk => (i2 k hk).1, by omega, fun k hk => (ok k hk).1.1, hNV, ?_⟩
  intro xn xf tF zf hx hxf hzf r0 n2 f2 r0' n2' f2' e1 e2
  have hq := ptL_pw (X := fun k => itF (upF pC rF cF vn) k pr) (rr := rr) (zf := zf) aC0 i1 (fun k hk => (i2 k hk).1) (fun k hk => ⟨(hrr2 k hk).1, (hrr2 k hk).2.1⟩) 40 0 (Nat.zero_le _) (by omega) (Or.inl rfl)
  have hf := pt_rel (vv := fun k => nvD bF dF pR ec (fun k => (nR k).toBitVec.toNat) (grdR rF cF vn 5 (itF (upF pC rF cF vn) k pr))) hx hxf hzf (fun k hk => ⟨(hrr2 k hk).1, (hrr2 k hk).2.2⟩) hq
  have e3 : (pw rr 60 zf 0) = (60, zf) := rfl
  rw [e3] at hf
  have e1' : ptC xn xf (ptL pC rF cF vn nC bF ec ro 40 (itF (upF pC rF cF vn) 0 pr) 60 zf) = (r0, n2, f2) := e1.symm
  dsimp only at hf
  rw [e1', ← e2] at hf
  exact hf
end PTJ
