/-! ===== worlds that grow: what is made ===== -/
def wAdd (w : WO) (o a : Nat) (y : LY) : WO := (w.1, w.2.1, (fun q => bif Nat.beq q o then a else wAd w q), (fun q => bif Nat.beq q o then some y else wLy w q), w.2.2.2.2)
def wSet (w : WO) (o : Nat) (y : LY) : WO := (w.1, w.2.1, w.2.2.1, (fun q => bif Nat.beq q o then some y else wLy w q), w.2.2.2.2)
def cle (σ : DD) (o : Nat) : DD := (fun a b => if a = o then 0 else σ.1 a b, fun a b => if a = o then 0 else σ.2.1 a b, fun a b => if a = o then none else σ.2.2 a b)
/-- the object q, so laid out, refers not to o -/
def nRef (σ : DD) (q : Nat) (y : LY) (o : Nat) : Prop := match y with
  | .inl (_, rf, N) => ∀ k, k < N → rf k ≠ some o
  | .inr (.inr (.inr (.inl (_, n)))) => ∀ k, k < n → gR σ q k ≠ some o
  | _ => True
def NR (w : WO) (σ : DD) (o : Nat) : Prop := ∀ q y, wLy w q = some y → nRef σ q y o
def NRs (w : WO) (σ : DD) (S : Nat → Prop) : Prop := ∀ o, S o → NR w σ o
theorem bq_t (o : Nat) : Nat.beq o o = true := Nat.beq_refl o
theorem bq_f {q o : Nat} (h : ¬ q = o) : Nat.beq q o = false := by
  cases hb : Nat.beq q o with
  | false => rfl
  | true => exact absurd (Nat.eq_of_beq_eq_true hb) h
section GR
variable {w w' : WO} {σ σ' : DD} {H H1 : Heap} {o a q : Nat} {y : LY}
theorem wAd_ae : wAd (wAdd w o a y) o = a := by show (bif Nat.beq o o then a else wAd w o) = a; rw [bq_t]; rfl
theorem wAd_an (h : ¬ q = o) : wAd (wAdd w o a y) q = wAd w q := by show (bif Nat.beq q o then a else wAd w q) = _; rw [bq_f h]; rfl
theorem wLy_ae : wLy (wAdd w o a y) o = some y := by show (bif Nat.beq o o then some y else wLy w o) = _; rw [bq_t]; rfl
theorem wLy_an (h : ¬ q = o) : wLy (wAdd w o a y) q = wLy w q := by show (bif Nat.beq q o then some y else wLy w q) = _; rw [bq_f h]; rfl
theorem wLy_se : wLy (wSet w o y) o = some y := by show (bif Nat.beq o o then some y else wLy w o) = _; rw [bq_t]; rfl
theorem wLy_sn (h : ¬ q = o) : wLy (wSet w o y) q = wLy w q := by show (bif Nat.beq q o then some y else wLy w q) = _; rw [bq_f h]; rfl
theorem cle_n {k : Nat} (h : ¬ q = o) : gI (cle σ o) q k = gI σ q k ∧ gL (cle σ o) q k = gL σ q k ∧ gR (cle σ o) q k = gR σ q k := by
  refine ⟨?_, ?_, ?_⟩
  · show (if q = o then _ else _) = _; rw [if_neg h]; rfl
  · show (if q = o then _ else _) = _; rw [if_neg h]; rfl
  · show (if q = o then _ else _) = _; rw [if_neg h]; rfl
theorem cle_e {k : Nat} : gI (cle σ o) o k = 0 ∧ gL (cle σ o) o k = 0 ∧ gR (cle σ o) o k = none := by
  refine ⟨?_, ?_, ?_⟩
  · show (if o = o then _ else _) = _; rw [if_pos rfl]
  · show (if o = o then _ else _) = _; rw [if_pos rfl]
  · show (if o = o then _ else _) = _; rw [if_pos rfl]
theorem arr_ext {cA : ClassId} {n : Nat} {f g : Nat → Value} (h : ∀ k, k < n → f k = g k) : arrV cA n f = arrV cA n g := by
  unfold arrV
  congr 2
  funext j
  exact h j.1 j.2
/-- a cell stays as it is if what it refers to stays where it was -/
theorem at_cg {G : va_G} (hC : ∀ t, wCa w' t = wCa w t) (hA : ∀ j, ¬ j = o → wAd w' j = wAd w j) (hr : nRef σ q y o) (hI : ∀ k, gI σ' q k = gI σ q k) (hL : ∀ k, gL σ' q k = gL σ q k) (hR : ∀ k, gR σ' q k = gR σ q k) (h : va_at G cls12 (a, celV w σ q y) H) : va_at G cls12 (a, celV w' σ' q y) H := by
  rcases y with ⟨ci, rf, N⟩ | ⟨t, n⟩ | n | ⟨t, n⟩ | ⟨ci, fs⟩
  · have e : (List.range N).map (fun k => fldV w' σ' q (rf k) k) = (List.range N).map (fun k => fldV w σ q (rf k) k) := by
      apply List.map_congr_left
      intro k hk
      have hr' : rf k ≠ some o := hr k (List.mem_range.1 hk)
      cases e : rf k with
      | none => simp only [fldV]; rw [hI]
      | some j => simp only [fldV]; rw [hA j (fun z => hr' (by rw [e, z]))]
    show va_at G cls12 (a, .inr (ci, (List.range N).map (fun k => fldV w' σ' q (rf k) k))) H
    rw [e]; exact h
  · show H[a]? = some (vp_cell (wCa w' t) (n, .inl (gI σ' q)))
    rw [hC, show gI σ' q = gI σ q from funext hI]; exact h
  · show H[a]? = some (vp_cell (wCa w' 3) (n, .inr (.inl (gL σ' q))))
    rw [hC, show gL σ' q = gL σ q from funext hL]; exact h
  · show H[a]? = some (vp_cell (wCa w' t) (n, .inr (.inr (.inr (.inr (fun k => (gR σ' q k).map (wAd w')))))))
    rw [vp_cell_q, hC, arr_ext (g := fun j => va_rf ((gR σ q j).map (wAd w))) (fun k hk => ?_)]
    · exact h
    · have hr' : gR σ q k ≠ some o := hr k hk
      rw [hR]
      cases e : gR σ q k with
      | none => rfl
      | some j => show va_rf (some (wAd w' j)) = va_rf (some (wAd w j)); rw [hA j (fun z => hr' (by rw [e, z]))]
  · exact h
/-- one object more, at the heap's end -/
theorem wd_add (h : Wd w σ H) (hn : wLy w o = none) (hr : NR w σ o) (hσ : ∀ q k, ¬ q = o → gI σ' q k = gI σ q k ∧ gL σ' q k = gL σ q k ∧ gR σ' q k = gR σ q k) (hk : ∀ q : Nat, q < H.size → H1[q]? = H[q]?) (hc : va_at w.1 cls12 (H.size, celV (wAdd w o H.size y) σ' o y) H1) : Wd (wAdd w o H.size y) σ' H1 := by
  have live : ∀ q y', wLy w q = some y' → wAd w q < H.size := fun q y' hq => (h.1 q y' hq).lt
  refine ⟨fun q y' hq => ?_, fun q1 q2 h1 h2 he => ?_⟩
  · by_cases c : q = o
    · subst c
      rw [wLy_ae] at hq
      cases hq
      rw [wAd_ae]
      exact hc
    · rw [wLy_an c] at hq
      rw [wAd_an c]
      exact at_cg (w := w) (w' := wAdd w o H.size y) (G := w.1) (o := o) (fun _ => rfl) (fun j hj => wAd_an hj) (hr q y' hq) (fun k => (hσ q k c).1) (fun k => (hσ q k c).2.1) (fun k => (hσ q k c).2.2) ((h.1 q y' hq).kept (hk _ (live q y' hq)))
  · by_cases c1 : q1 = o
    · by_cases c2 : q2 = o
      · rw [c1, c2]
      · rw [c1, wAd_ae, wAd_an c2] at he
        rw [wLy_an c2] at h2
        obtain ⟨y2, e2⟩ := Option.ne_none_iff_exists'.1 h2
        have := live q2 y2 e2
        omega
    · rw [wLy_an c1] at h1
      by_cases c2 : q2 = o
      · rw [c2, wAd_ae, wAd_an c1] at he
        obtain ⟨y1, e1⟩ := Option.ne_none_iff_exists'.1 h1
        have := live q1 y1 e1
        omega
      · rw [wLy_an c2] at h2
        rw [wAd_an c1, wAd_an c2] at he
        exact h.2 q1 q2 h1 h2 he
/-- the same heap, told otherwise -/
theorem Wd.to (h : Wd w σ H) (had : ∀ q y', wLy w' q = some y' → wAd w' q = wAd w q ∧ ∃ y0, wLy w q = some y0 ∧ (va_at w.1 cls12 (wAd w q, celV w σ q y0) H → va_at w'.1 cls12 (wAd w q, celV w' σ' q y') H)) : Wd w' σ' H := by
  refine ⟨fun q y' hq => ?_, fun q1 q2 h1 h2 he => ?_⟩
  · obtain ⟨e, y0, e0, k⟩ := had q y' hq
    rw [e]; exact k (h.1 q y0 e0)
  · obtain ⟨y1, e1⟩ := Option.ne_none_iff_exists'.1 h1
    obtain ⟨y2, e2⟩ := Option.ne_none_iff_exists'.1 h2
    obtain ⟨a1, z1, g1, -⟩ := had q1 y1 e1
    obtain ⟨a2, z2, g2, -⟩ := had q2 y2 e2
    rw [a1, a2] at he
    exact h.2 q1 q2 (by rw [g1]; exact fun z => by cases z) (by rw [g2]; exact fun z => by cases z) he
/-- an object in the making is written -/
theorem wd_raw {ci : Nat} {fs fs' : List Value} (h : Wd w σ H) (hy : wLy w o = some (lR ci fs)) (he : va_at w.1 cls12 (wAd w o, .inr (ci, fs')) H1) (oq : ∀ q : Nat, q ≠ wAd w o → H1[q]? = H[q]?) : Wd (wSet w o (lR ci fs')) σ H1 := by
  refine ⟨fun q y' hq => ?_, fun q1 q2 h1 h2 e => ?_⟩
  · by_cases c : q = o
    · subst c
      rw [wLy_se] at hq
      cases hq
      exact he
    · rw [wLy_sn c] at hq
      have := h.1 q y' hq
      have h2 : va_at w.1 cls12 (wAd w q, celV w σ q y') H1 := this.kept (oq _ (fun z => c (h.2 q o (by rw [hq]; exact fun z => by cases z) (by rw [hy]; exact fun z => by cases z) z)))
      rcases y' with ⟨ci, rf, N⟩ | ⟨t, n⟩ | n | ⟨t, n⟩ | ⟨ci, fs⟩ <;> exact h2
  · have live : ∀ q, wLy (wSet w o (lR ci fs')) q ≠ none → wLy w q ≠ none := by
      intro q hq
      by_cases c : q = o
      · rw [c, hy]; exact fun z => by cases z
      · rw [wLy_sn c] at hq; exact hq
    exact h.2 q1 q2 (live q1 h1) (live q2 h2) e
theorem NR.add {o1 : Nat} (h : NR w σ o1) (hy : nRef (cle σ o) o y o1) : NR (wAdd w o a y) (cle σ o) o1 := by
  intro q y' hq
  by_cases c : q = o
  · subst c
    rw [wLy_ae] at hq
    cases hq
    exact hy
  · rw [wLy_an c] at hq
    have := h q y' hq
    rcases y' with ⟨ci, rf, N⟩ | ⟨t, n⟩ | n | ⟨t, n⟩ | ⟨ci, fs⟩
    · exact this
    · trivial
    · trivial
    · intro k hk
      rw [(cle_n c).2.2]; exact this k hk
    · trivial
theorem NRs.add {S : Nat → Prop} (h : NRs w σ S) (hy : ∀ o1, S o1 → nRef (cle σ o) o y o1) : NRs (wAdd w o a y) (cle σ o) S := fun o1 h1 => (h o1 h1).add (hy o1 h1)
theorem NRs.set {S : Nat → Prop} {ci : Nat} {fs : List Value} (h : NRs w σ S) : NRs (wSet w o (lR ci fs)) σ S := by
  intro o1 h1 q y' hq
  by_cases c : q = o
  · subst c
    rw [wLy_se] at hq
    cases hq
    trivial
  · rw [wLy_sn c] at hq
    exact h o1 h1 q y' hq
theorem NRs.gr {S : Nat → Prop} (h : NRs w σ S) (e : ∀ q k, gR σ' q k = gR σ q k) : NRs w σ' S := by
  intro o1 h1 q y' hq
  have := h o1 h1 q y' hq
  rcases y' with ⟨ci, rf, N⟩ | ⟨t, n⟩ | n | ⟨t, n⟩ | ⟨ci, fs⟩
  · exact this
  · trivial
  · trivial
  · intro k hk; rw [e]; exact this k hk
  · trivial
theorem nR_I {t n o1 : Nat} : nRef σ q (lI t n) o1 := trivial
theorem nR_J {n o1 : Nat} : nRef σ q (lJ n) o1 := trivial
theorem nR_R {ci o1 : Nat} {fs : List Value} : nRef σ q (lR ci fs) o1 := trivial
theorem nR_Q {t n o1 : Nat} : nRef (cle σ q) q (lQ t n) o1 := fun k _ => by rw [cle_e.2.2]; exact fun z => by cases z
end GR
theorem ws_comm {w : WO} {o o' q : Nat} {y y' : LY} (h : ¬ o' = o) : wAdd (wSet w o y) o' q y' = wSet (wAdd w o' q y') o y := by
  have e : (fun j => bif Nat.beq j o' then some y' else bif Nat.beq j o then some y else wLy w j) = (fun j => bif Nat.beq j o then some y else bif Nat.beq j o' then some y' else wLy w j) := by
    funext j
    by_cases c : j = o
    · rw [c, bq_t, bq_f (fun z => h z.symm)]; rfl
    · rw [bq_f c]; rfl
  show ((w.1, w.2.1, (fun j => bif Nat.beq j o' then q else wAd w j), (fun j => bif Nat.beq j o' then some y' else bif Nat.beq j o then some y else wLy w j), w.2.2.2.2) : WO) = (w.1, w.2.1, (fun j => bif Nat.beq j o' then q else wAd w j), (fun j => bif Nat.beq j o then some y else bif Nat.beq j o' then some y' else wLy w j), w.2.2.2.2)
  rw [e]
theorem ws_ws {w : WO} {o : Nat} {y y' : LY} : wSet (wSet w o y) o y' = wSet w o y' := by
  have e : (fun j => bif Nat.beq j o then some y' else bif Nat.beq j o then some y else wLy w j) = (fun j => bif Nat.beq j o then some y' else wLy w j) := by
    funext j
    by_cases c : j = o
    · rw [c, bq_t]; rfl
    · rw [bq_f c]; rfl
  show ((w.1, w.2.1, w.2.2.1, (fun j => bif Nat.beq j o then some y' else bif Nat.beq j o then some y else wLy w j), w.2.2.2.2) : WO) = (w.1, w.2.1, w.2.2.1, (fun j => bif Nat.beq j o then some y' else wLy w j), w.2.2.2.2)
  rw [e]
