section THX
variable {σ τ : DD} {T : TXT} {K : Nat → Int32} {L : List RD}
def xlP (o p : Nat) : Prop := o = 93 ∨ (o = 90 ∧ p = 6)
def LstX (σ : DD) (l : List Nat) : Prop := gI σ 90 6 = nI l.length ∧ rowIs σ 93 l
theorem s_Xlist {m : Nat} {post : DD → Prop} (hS : XS σ T K L) (hm : m < 2 ^ nA K) (k : ∀ τ, AgX xlP (fun _ => False) σ τ → LstX τ (lst (nA K) m) → post τ) : w_Shar_list T σ (nI m) post := by
  have hI := hS.1.2.2
  have ha8 := hI.a
  unfold w_Shar_list
  intro σ8 e8
  unfold w_Shar_list_l7
  refine LoopN (fun c y => ∃ i, c = nA K - i ∧ i ≤ nA K ∧ AgX xlP (fun _ => False) σ y.1 ∧ y.2 = nI i ∧ gI y.1 90 6 = nI (lstI (nA K) m i).length ∧ rowIs y.1 93 (lstI (nA K) m i)) ?_ (n := nA K) ⟨0, rfl, Nat.zero_le _, ?_, rfl, ?_, ?_⟩
  · rintro c ⟨υ, a2⟩ KK ⟨i, hc, hi, ag, e2, h40, hrow⟩ ih
    simp only [] at ag e2 h40 hrow ⊢
    subst e2
    unfold w_Shar_list_b7
    have hl := lstI_len (N := nA K) (m := m) i
    rw [ag.i 200 0 (by unfold xlP; omega), hS.1.1.na, ha8.1, nI_leI (by omega) (by omega)]
    refine ⟨fun z => ?_, fun z => ?_⟩
    · have : i = nA K := by omega
      subst this
      exact k υ ag ⟨h40, hrow⟩
    · rw [bOf_bit hm (by omega) (by omega), decide_eq_true (show i < nA K by omega), Bool.true_and]
      refine br0 (fun hb => ?_) (fun hb => ?_)
      · rw [nI_1]
        refine ih (nA K - (i + 1)) _ (by omega) ⟨i + 1, rfl, by omega, ag, rfl, ?_, ?_⟩
        · rw [lstI_succ, hb]; simpa using h40
        · rw [lstI_succ, hb]; simpa using hrow
      · rw [h40, nI_clamp (by omega)]
        refine ⟨vp_in_nI (by omega) (by decide), fun σ5 e5 σ8 e8 => ?_⟩
        rw [nI_1]
        refine ih (nA K - (i + 1)) _ (by omega) ⟨i + 1, rfl, by omega, ?_, rfl, ?_, ?_⟩
        · subst e5; subst e8; exact (ag.set (Or.inl rfl)).set (Or.inr ⟨rfl, rfl⟩)
        · subst e5; subst e8
          rw [gI_same, gI_sI, if_neg (by omega), h40, nI_1, lstI_succ, if_pos hb, List.length_append]; rfl
        · rw [lstI_succ, if_pos hb]
          intro j x hx
          subst e5; subst e8
          rw [gI_sI, if_neg (by omega), gI_sI]
          by_cases hj : j < (lstI (nA K) m i).length
          · rw [List.getElem?_append_left hj] at hx
            rw [if_neg (by omega)]; exact hrow j x hx
          · rw [List.getElem?_append_right (by omega)] at hx
            have hj0 : j - (lstI (nA K) m i).length = 0 := by
              rw [List.getElem?_eq_some_iff] at hx
              have := hx.1
              simp at this; omega
            rw [hj0] at hx
            simp at hx
            rw [if_pos ⟨rfl, by omega⟩, hx]
  · subst e8; exact AgX.put (Or.inr ⟨rfl, rfl⟩)
  · subst e8; exact gI_same
  · intro j x hx; simp [lstI] at hx
def cst (K : Nat → Int32) (d a r : Nat) : Nat := if barN K a r (d % 7) then 100 else takN K a r (d % 7)
theorem cst_le (hI : KI K) {d a r : Nat} (ha : a < nA K) : cst K d a r ≤ 100 := by
  have := (takN_e hI (r := r) (w := d % 7) ha).2
  unfold cst; split <;> omega
/-- what it takes by whom stands there -/
def Cst (σ : DD) (K : Nat → Int32) (d : Nat) (l : List Nat) (i : Nat) : Prop := ∀ j a r, j < i → l[j]? = some a → r < nR K → gI σ 96 (4 * j + r) = nI (cst K d a r)
def anyR (K : Nat → Int32) (d a n : Nat) : Bool := (List.range n).any (fun r => decide (cst K d a r ≤ voi K r))
theorem s_XhasReader {d0 i a : Nat} {l : List Nat} {post : Int32 → DD → Prop} (hS : XS σ T K L) (hday : gI σ 208 0 = nI d0) (hd : d0 ≤ 999) (hl : LstX σ l) (hl8 : l.length ≤ 8) (hi : l[i]? = some a) (ha : a < nA K) (hc : Cst σ K d0 l i) (k : ∀ τ, AgX (fun o p => xq o p ∨ o = 96) xl σ τ → XS τ T K L → Cst τ K d0 l (i + 1) → post (bl (anyR K d0 a (nR K))) τ) : w_Shar_hasReader T σ (nI i) post := by
  have hI := hS.1.2.2
  have ha8 := hI.a
  have hr4 := hI.r
  have hil : i < l.length := by rw [List.getElem?_eq_some_iff] at hi; exact hi.1
  unfold w_Shar_hasReader
  intro v16 e16
  rw [hday] at e16
  subst e16
  unfold w_Shar_hasReader_l15
  refine LoopN (fun c y => ∃ r, c = nR K - r ∧ r ≤ nR K ∧ AgX (fun o p => xq o p ∨ o = 96) xl σ y.1 ∧ XS y.1 T K L ∧ y.2.2 = nI r ∧ y.2.1 = bl (anyR K d0 a r) ∧ Cst y.1 K d0 l i ∧ ∀ r', r' < r → gI y.1 96 (4 * i + r') = nI (cst K d0 a r')) ?_ (n := nR K) ⟨0, rfl, Nat.zero_le _, AgX.refl σ, hS, rfl, rfl, hc, by omega⟩
  rintro c ⟨υ, b, a4⟩ KK ⟨r, hcc, hr, ag, hSu, e4, hb, hcu, hcr⟩ ih
  simp only [] at ag hSu e4 hb hcu hcr ⊢
  subst e4
  unfold w_Shar_hasReader_b15
  rw [hSu.1.1.nr, hr4.1, nI_leI (by omega) (by omega)]
  refine ⟨fun z => ?_, fun z => ?_⟩
  · have : r = nR K := by omega
    subst this
    rw [hb]
    refine ⟨bl_z _, k υ ag hSu ?_⟩
    intro j a' r' hj ha' hr'
    by_cases hji : j = i
    · subst hji; rw [hi] at ha'; injection ha' with ha'; subst ha'; exact hcr r' hr'
    · exact hcu j a' r' (by omega) ha' hr'
  · have hin8 : vp_in (nI i) 8 := vp_in_nI (by omega) (by decide)
    have r93 : ∀ υ', AgX (fun o p => xq o p ∨ o = 96) xl σ υ' → gI υ' 93 i = nI a := fun υ' a' => by
      rw [a'.i 93 i (by unfold xq; omega)]; exact hl.2 i a hi
    have xc : ∀ {υ1 υ2 : DD}, AgX xq xl υ1 υ2 → AgX (fun o p => xq o p ∨ o = 96) xl υ1 υ2 := fun a => a.mono (fun o p h => Or.inl h) (fun o h => h)
    have j71 : ∀ υ2, AgX xq xl υ υ2 → XS υ2 T K L → ∀ t0, t0 = nI (cst K d0 a r) → w_Shar_hasReader_j71 T (fun σ a3 a4 => KK (σ, a3, a4)) post υ2 (nI i) (nI d0) b (nI r) t0 := by
      intro υ2 ag2 hS2 t0 ht0
      unfold w_Shar_hasReader_j71 w_Shar_hasReader_j105 w_Shar_hasReader_j110
      have e4 : (nI i * 4) + nI r = nI (4 * i + r) := by
        rw [show (4 : Int32) = nI 4 from rfl, pk_mul, nI_add]; congr 1; omega
      have hcl := cst_le hI (d := d0) (r := r) ha
      have hv := voi_e hI (r := r) (by omega)
      rw [e4, nI_clamp (by omega), nI_clamp (n := r) (by omega)]
      refine ⟨vp_in_nI (by omega) (by decide), fun σ3 e3 => ?_⟩
      have ag3 : AgX (fun o p => o = 96) (fun _ => False) υ2 σ3 := by subst e3; exact AgX.put rfl
      have hS3 := hS2.ag ag3 (by omega) (by omega) (by omega) (by omega)
      have agT : AgX (fun o p => xq o p ∨ o = 96) xl υ σ3 := (xc ag2).trans (ag3.mono (fun o p h => Or.inr h) (fun o h => h.elim))
      rw [hS3.1.1.vo (by omega), hv.1, ht0, nI_ltI (by omega) (by omega)]
      have nx : ∀ v, v = bl (anyR K d0 a (r + 1)) → KK (σ3, v, nI r + 1) := by
        intro v hv'
        rw [nI_1]
        refine ih (nR K - (r + 1)) _ (by omega) ⟨r + 1, rfl, by omega, ag.trans agT, hS3, rfl, hv', ?_, ?_⟩
        · intro j a' r' hj ha' hr'
          subst e3
          rw [gI_sI, if_neg (by omega), ag2.i 96 _ (by unfold xq; omega)]
          exact hcu j a' r' hj ha' hr'
        · intro r' hr'
          subst e3
          rw [gI_sI]
          by_cases hrr : r' = r
          · subst hrr; rw [if_pos ⟨rfl, rfl⟩, ht0]
          · rw [if_neg (by omega), ag2.i 96 _ (by unfold xq; omega)]; exact hcr r' (by omega)
      have hany : anyR K d0 a (r + 1) = (anyR K d0 a r || decide (cst K d0 a r ≤ voi K r)) := any_range_succ r
      refine ⟨fun w => nx 1 ?_, fun w => ⟨vp_in_nI (by omega) (by decide), fun w2 => nx 0 ?_, fun w2 => nx 1 ?_⟩⟩
      · rw [hb] at w
        rw [hany]
        cases hz : anyR K d0 a r
        · rw [hz] at w; exact absurd rfl w
        · rfl
      · rw [hb] at w
        rw [hany, decide_eq_false (by omega)]
        cases hz : anyR K d0 a r
        · rfl
        · rw [hz] at w; exact absurd w (by decide)
      · rw [hany, decide_eq_true (by omega)]; cases anyR K d0 a r <;> rfl
    have hp := pack_e hI (r := r) (w := d0 % 7) ha
    rw [nI_clamp (n := i) (by omega), r93 υ ag]
    refine ⟨hin8, ?_⟩
    unfold w_Court_bars
    refine s_answerOf hSu.1 ha (by omega) (by omega) ?_
    intro υ1 ag1 hQ1
    have hS1 := hSu.q ag1 hQ1
    have yes : barN K a r (d0 % 7) = false → (0 : Int32) = 0 → vp_in (nI i) 8 ∧ w_Court_takes T υ1 (gI υ1 93 i) (nI r) (nI d0) (fun r14 σ15 => w_Shar_hasReader_j71 T (fun σ a3 a4 => KK (σ, a3, a4)) post σ15 (nI i) (nI d0) b (nI r) r14) := by
      intro hbf _
      rw [r93 υ1 (ag.trans (xc ag1))]
      refine ⟨hin8, ?_⟩
      unfold w_Court_takes
      refine s_answerOf hS1.1 ha (by omega) (by omega) ?_
      intro υ2 ag2 hQ2
      rw [hp.2.1]
      refine j71 υ2 (ag1.trans ag2) (hS1.q ag2 hQ2) _ ?_
      unfold cst; rw [hbf]; rfl
    rw [hp.2.2]
    refine ⟨fun w => ⟨fun w2 => yes w w2, fun w2 => absurd rfl w2⟩, fun w => ⟨fun w2 => absurd w2 (by decide), fun _ => ?_⟩⟩
    refine j71 υ1 ag1 hS1 100 ?_
    have : barN K a r (d0 % 7) = true := by cases hbb : barN K a r (d0 % 7) <;> simp_all
    unfold cst; rw [this]; rfl
/-- the room of a reader -/
def Rm (σ : DD) (K : Nat → Int32) (set : Nat → Bool) (s : Nat → Nat) : Prop := ∀ r, r < nR K → (set r = true → gI σ 95 r = nI (voi K r - s r) ∧ s r ≤ voi K r) ∧ (set r = false → gI σ 95 r = -1)
theorem s_shareFrom (hI : KI K) {d0 : Nat} {set : Nat → Bool} {l : List Nat} (hd : d0 ≤ 999) (hl8 : l.length ≤ 8) (hlA : ∀ a, a ∈ l → a < nA K) : ∀ m i fuel (s : Nat → Nat) (σ : DD) (post : Int32 → DD → Prop), i + m = l.length → m < fuel → XS σ T K L → LstX σ l → Cst σ K d0 l l.length → Rm σ K set s → (∀ τ, AgX (fun o p => o = 95) (fun _ => False) σ τ → Rm τ K set s → post (bl (shr K d0 set (l.drop i) s)) τ) → w_Shar_shareFrom_d T fuel σ (nI i) post := by
  have ha8 := hI.a
  have hr4 := hI.r
  intro m
  induction m with
  | zero =>
    intro i fuel s σ post hk hf hS hl hc hrm kk
    cases fuel with
    | zero => omega
    | succ fuel =>
      show w_Shar_shareFrom_o T (w_Shar_shareFrom_d T fuel) σ (nI i) post
      unfold w_Shar_shareFrom_o
      have : i = l.length := by omega
      subst this
      rw [hl.1, nI_ltI (by omega) (by omega)]
      refine ⟨fun z => by omega, fun _ => ?_⟩
      rw [List.drop_length] at kk
      exact kk σ (AgX.refl σ) hrm
  | succ m ihm =>
    intro i fuel s σ post hk hf hS hl hc hrm kk
    cases fuel with
    | zero => omega
    | succ fuel =>
      show w_Shar_shareFrom_o T (w_Shar_shareFrom_d T fuel) σ (nI i) post
      unfold w_Shar_shareFrom_o
      rw [hl.1, nI_ltI (by omega) (by omega)]
      refine ⟨fun _ => ?_, fun z => by omega⟩
      obtain ⟨a, ha, hal⟩ := get_lt (L := l) (i := i) (by omega)
      have haA := hlA a hal
      have hdr : l.drop i = a :: l.drop (i + 1) := by
        have hkl : i < l.length := by omega
        rw [List.drop_eq_getElem_cons hkl]
        rw [List.getElem?_eq_some_iff] at ha
        rw [ha.2]
      rw [hdr, shr] at kk
      generalize hF : (fun r => (set r && !barN K a r (d0 % 7) && decide (s r + takN K a r (d0 % 7) ≤ voi K r)) && shr K d0 set (l.drop (i + 1)) (upU s r (s r + takN K a r (d0 % 7)))) = F at kk
      unfold w_Shar_shareFrom_l12
      refine LoopN (fun c y => ∃ r, c = nR K - r ∧ r ≤ nR K ∧ AgX (fun o p => o = 95) (fun _ => False) σ y.1 ∧ Rm y.1 K set s ∧ y.2 = nI r ∧ (List.range r).any F = false) ?_ (n := nR K) ⟨0, rfl, Nat.zero_le _, AgX.refl σ, hrm, rfl, rfl⟩
      rintro c ⟨υ, a2⟩ KK ⟨r, hcc, hr, ag, hru, e2, hany⟩ ih
      simp only [] at ag hru e2 hany ⊢
      subst e2
      have keep : ∀ υ', AgX (fun o p => o = 95) (fun _ => False) σ υ' → XS υ' T K L ∧ LstX υ' l ∧ Cst υ' K d0 l l.length := by
        intro υ' a'
        refine ⟨hS.ag a' (by omega) (by omega) (by omega) (by omega), ⟨?_, ?_⟩, ?_⟩
        · rw [a'.i 90 6 (by omega)]; exact hl.1
        · intro j x hx; rw [a'.i 93 j (by omega)]; exact hl.2 j x hx
        · intro j x r' h1 h2 h3; rw [a'.i 96 _ (by omega)]; exact hc j x r' h1 h2 h3
      obtain ⟨hSu, hlu, hcu⟩ := keep υ ag
      unfold w_Shar_shareFrom_b12
      rw [hSu.1.1.nr, hr4.1, nI_leI (by omega) (by omega)]
      refine ⟨fun z => ?_, fun z => ?_⟩
      · have : r = nR K := by omega
        subst this
        have := kk υ ag hru
        rw [hany] at this
        exact this
      · have e4 : (nI i * 4) + nI r = nI (4 * i + r) := by
          rw [show (4 : Int32) = nI 4 from rfl, pk_mul, nI_add]; congr 1; omega
        have hcl := cst_le hI (d := d0) (r := r) haA
        have htk := (takN_e hI (r := r) (w := d0 % 7) haA).2
        have hv := voi_e hI (r := r) (by omega)
        have hin4 : vp_in (nI r) 4 := vp_in_nI (by omega) (by decide)
        rw [e4, nI_clamp (by omega), hcu i a r (by omega) ha (by omega), nI_clamp (n := r) (by omega)]
        have hFr : F r = ((set r && !barN K a r (d0 % 7) && decide (s r + takN K a r (d0 % 7) ≤ voi K r)) && shr K d0 set (l.drop (i + 1)) (upU s r (s r + takN K a r (d0 % 7)))) := by rw [← hF]
        have nx : ∀ υ', AgX (fun o p => o = 95) (fun _ => False) υ υ' → Rm υ' K set s → F r = false → KK (υ', nI r + 1) := by
          intro υ' a' hr' hF'
          rw [nI_1]
          refine ih (nR K - (r + 1)) _ (by omega) ⟨r + 1, rfl, by omega, ag.trans a', hr', rfl, ?_⟩
          rw [any_range_succ, hany, hF']; rfl
        have hcond : (nI (cst K d0 a r) ≤ gI υ 95 r) ↔ (set r && !barN K a r (d0 % 7) && decide (s r + takN K a r (d0 % 7) ≤ voi K r)) = true := by
          cases hs : set r with
          | false =>
            rw [(hru r (by omega)).2 hs]
            have : 0 ≤ nI (cst K d0 a r) := nI_pos' (by omega)
            constructor
            · intro h; exfalso; grind
            · intro h; simp at h
          | true =>
            have h2 := (hru r (by omega)).1 hs
            rw [h2.1, nI_leI (by omega) (by omega)]
            unfold cst
            cases hb : barN K a r (d0 % 7) with
            | true => simp; omega
            | false => simp; omega
        refine ⟨vp_in_nI (by omega) (by decide), fun v3 e3 => ⟨hin4, ?_⟩⟩
        subst e3
        rw [hcond]
        refine ⟨fun hok => ?_, fun hok => nx υ (AgX.refl υ) hru (by rw [hFr]; cases hx : (set r && !barN K a r (d0 % 7) && decide (s r + takN K a r (d0 % 7) ≤ voi K r)) with | true => exact absurd hx hok | false => rfl)⟩
        have hok' := hok
        simp only [Bool.and_eq_true, decide_eq_true_eq, Bool.not_eq_true'] at hok'
        have hcs : cst K d0 a r = takN K a r (d0 % 7) := by unfold cst; rw [hok'.1.2]; rfl
        have h2 := (hru r (by omega)).1 hok'.1.1
        refine ⟨hin4, hin4, fun σ8 e8 => ?_⟩
        rw [h2.1, hcs, pk_sub (by omega)] at e8
        have ag8 : AgX (fun o p => o = 95) (fun _ => False) υ σ8 := by subst e8; exact AgX.put rfl
        obtain ⟨q1, q2, q3⟩ := keep σ8 (ag.trans ag8)
        rw [nI_1]
        refine ihm (i + 1) fuel (upU s r (s r + takN K a r (d0 % 7))) σ8 _ (by omega) (by omega) q1 q2 q3 ?_ ?_
        · intro r' hr'
          subst e8
          rw [gI_sI]
          unfold upU
          by_cases hrr : r' = r
          · subst hrr
            rw [if_pos ⟨rfl, rfl⟩, if_pos rfl]
            refine ⟨fun _ => ⟨by congr 1; omega, by omega⟩, fun hh => by rw [hok'.1.1] at hh; simp at hh⟩
          · rw [if_neg (fun x => hrr x.2), if_neg hrr]; exact hru r' hr'
        · intro τ agt hrt
          have hr2 := (hrt r (by omega)).1 hok'.1.1
          have eU : upU s r (s r + takN K a r (d0 % 7)) r = s r + takN K a r (d0 % 7) := by unfold upU; rw [if_pos rfl]
          rw [eU] at hr2
          refine ⟨hin4, hin4, fun σ14 e14 => ?_⟩
          rw [hr2.1, hcs, nI_add] at e14
          have ag14 : AgX (fun o p => o = 95) (fun _ => False) τ σ14 := by subst e14; exact AgX.put rfl
          have agT := ag8.trans (agt.trans ag14)
          have hrf : Rm σ14 K set s := by
            intro r' hr'
            subst e14
            rw [gI_sI]
            by_cases hrr : r' = r
            · subst hrr
              rw [if_pos ⟨rfl, rfl⟩]
              refine ⟨fun _ => ⟨by congr 1; omega, by omega⟩, fun hh => by rw [hok'.1.1] at hh; simp at hh⟩
            · rw [if_neg (fun x => hrr x.2)]
              have := hrt r' hr'
              unfold upU at this
              rw [if_neg hrr] at this; exact this
          refine br0 (fun hb2 => nx σ14 agT hrf (by rw [hFr, hb2, Bool.and_false])) (fun hb2 => ?_)
          have := kk σ14 (ag.trans agT) hrf
          have hT : (List.range (nR K)).any F = true := by
            rw [List.any_eq_true]
            refine ⟨r, List.mem_range.2 (by omega), ?_⟩
            rw [hFr, hok, hb2]; rfl
          rw [hT] at this
          exact this
/-- an act that nobody can read -/
theorem shr_no {d a : Nat} {set : Nat → Bool} (h : anyR K d a (nR K) = false) : ∀ (l : List Nat) (s : Nat → Nat), a ∈ l → shr K d set l s = false := by
  intro l
  induction l with
  | nil => intro s h; simp at h
  | cons b l ih =>
    intro s hm
    rw [shr, List.any_eq_false]
    intro r hr
    rw [List.mem_range] at hr
    by_cases hab : a = b
    · subst hab
      unfold anyR at h
      rw [List.any_eq_false] at h
      have := h r (List.mem_range.2 hr)
      simp only [decide_eq_true_eq] at this
      unfold cst at this
      cases hb : barN K a r (d % 7) with
      | true => simp
      | false =>
        rw [hb] at this
        simp at this
        have : ¬ s r + takN K a r (d % 7) ≤ voi K r := by omega
        simp [this]
    · have := ih (upU s r (s r + takN K b r (d % 7))) (by rcases List.mem_cons.1 hm with w | w; exact absurd w hab; exact w)
      rw [this, Bool.and_false]; simp
def xtP (o p : Nat) : Prop := xq o p ∨ (93 ≤ o ∧ o ≤ 96) ∨ (o = 90 ∧ p = 6)
theorem s_Xthroats {d0 : Nat} {a1 a2 : Int32} {post : Int32 → DD → Prop} (hS : XS σ T K L) (hday : gI σ 208 0 = nI d0) (hd0 : d0 ≤ 999) (k : ∀ τ, AgX scrX scrL σ τ → XS τ T K L → post (throatS K d0 a1 a2) τ) : w_Face_throats T σ a1 a2 post := by
  have hI := hS.1.2.2
  have ha8 := hI.a
  have hr4 := hI.r
  unfold throatS at k
  unfold w_Face_throats
  refine ⟨fun h0 => ?_, fun h0 => ?_⟩
  · rw [decide_eq_true h0] at k
    have kk := k σ (AgX.refl σ) hS
    simpa using kk
  rw [decide_eq_false h0] at k
  refine s_XareActs hS.1.1 hI (br0 (fun h1 => ?_) (fun h1 => ?_))
  · rw [h1] at k; exact k σ (AgX.refl σ) hS
  rw [h1] at k
  have no : inB a2 0 1 = false → post (-1) σ := by
    intro h
    have kk := k σ (AgX.refl σ) hS
    rw [h] at kk; simpa using kk
  refine ⟨fun z => no (decide_eq_false (by grind)), fun z1 => ⟨fun z2 => ?_, fun z2 => no (decide_eq_false (by grind))⟩⟩
  have h2 : inB a2 0 1 = true := decide_eq_true (by grind)
  rw [h2] at k
  simp only [Bool.not_false, Bool.and_true, if_true] at k
  obtain ⟨m, hm, e1⟩ := actsB_e hI h1
  subst e1
  have hp8 := pow8 ha8.2
  rw [nI_clamp (by omega)] at k
  unfold w_Shar_fewestReaders
  refine s_Xlist hS hm ?_
  intro υ agl hl
  have hlA : ∀ a, a ∈ lst (nA K) m → a < nA K := fun a ha => (lst_mem.1 ha).1
  have hlB : ∀ a, a ∈ lst (nA K) m ↔ a < nA K ∧ bOf (nI m) a = true := fun a => lst_mem
  have hl8 : (lst (nA K) m).length ≤ 8 := by have := lstI_len (N := nA K) (m := m) (nA K); exact Nat.le_trans this ha8.2
  generalize lst (nA K) m = l at hl hlA hlB hl8 k
  have agT : AgX xtP xl σ υ := agl.mono (by intro o p h; unfold xlP at h; unfold xtP; omega) (fun o h => h.elim)
  have scr : ∀ {υ1 υ2 : DD}, AgX xtP xl υ1 υ2 → AgX scrX scrL υ1 υ2 := fun a => a.mono (by intro o p h; unfold xtP xq at h; unfold scrX; omega) (fun o => xl_scr)
  have hS1 := hS.ag agl (by unfold xlP; omega) (by unfold xlP; omega) (by unfold xlP; omega) (by unfold xlP; omega)
  have dayu : ∀ υ', AgX xtP xl σ υ' → gI υ' 208 0 = nI d0 := fun υ' a => by rw [a.i 208 0 (by unfold xtP xq; omega)]; exact hday
  have bad : ∀ υ', AgX xtP xl σ υ' → XS υ' T K L → (clash K l = true ∨ ∃ a, a ∈ l ∧ anyR K d0 a (nR K) = false) → post (-1) υ' := by
    intro υ' ag' hS' hbad
    have kk := k υ' (scr ag') hS'
    rcases hbad with h | ⟨a, ha, h⟩
    · rw [h] at kk; simpa using kk
    · have : thI (shF K d0 l) (2 ^ nR K) = none := thI_none _ (fun s _ _ => shr_no h l _ ha)
      rw [this] at kk
      cases clash K l <;> simpa using kk
  unfold w_Shar_fewestReaders_l7
  refine LoopN (fun c y => ∃ i, c = l.length - i ∧ i ≤ l.length ∧ AgX xtP xl σ y.1 ∧ XS y.1 T K L ∧ LstX y.1 l ∧ Cst y.1 K d0 l i ∧ y.2 = nI i ∧ ∀ (j a : Nat), j < i → l[j]? = some a → ∀ b, b ∈ l → gsy K a b = false) ?_ (n := l.length) ⟨0, rfl, Nat.zero_le _, agT, hS1, hl, by intro j a r h; omega, rfl, by omega⟩
  rintro c ⟨υ, a2'⟩ KK ⟨i, hcc, hi, ag, hSu, hlu, hcu, e2, hno⟩ ih
  simp only [] at ag hSu hlu hcu e2 hno ⊢
  subst e2
  unfold w_Shar_fewestReaders_b7
  rw [hlu.1, nI_leI (by omega) (by omega)]
  refine ⟨fun z => ?_, fun z => ?_⟩
  · have hie : i = l.length := by omega
    subst hie
    have hcf : clash K l = false := by
      unfold clash
      rw [List.any_eq_false]
      intro a ha
      simp only [Bool.not_eq_true]
      rw [List.any_eq_false]
      intro b hb
      obtain ⟨j, hj, ej⟩ := List.getElem_of_mem ha
      rw [hno j a hj (by rw [List.getElem?_eq_some_iff]; exact ⟨hj, ej⟩) b hb]; simp
    rw [hcf] at k
    simp only [Bool.false_eq_true, if_false] at k
    have hpw : 2 ^ nR K ≤ 2 ^ 4 := Nat.pow_le_pow_right (by decide) hr4.2
    have hpw1 : 1 ≤ 2 ^ nR K := Nat.one_le_two_pow
    unfold w_Shar_fewestReaders_l52
    refine LoopN (fun c y => ∃ z, c = nR K + 1 - z ∧ 1 ≤ z ∧ z ≤ nR K + 1 ∧ AgX xtP xl σ y.1 ∧ XS y.1 T K L ∧ LstX y.1 l ∧ Cst y.1 K d0 l l.length ∧ y.2 = nI z ∧ ∀ s, 1 ≤ s → s < 2 ^ nR K → onN s < z → shF K d0 l s = false) ?_ (n := nR K) ⟨1, by omega, Nat.le_refl _, by omega, ag, hSu, hlu, hcu, rfl, fun s h1 h2 h3 => by have := (onN_in hr4.2 h1 h2).1; omega⟩
    rintro c ⟨υ, a2'⟩ KK2 ⟨zz, hc2, hz1, hz, ag, hSu, hlu, hcu, e2, hsm⟩ ih2
    simp only [] at ag hSu hlu hcu e2 hsm ⊢
    subst e2
    unfold w_Shar_fewestReaders_b52
    rw [hSu.1.1.nr, hr4.1, nI_ltI (by omega) (by omega)]
    refine ⟨fun w => ?_, fun w => ?_⟩
    · have hn : thI (shF K d0 l) (2 ^ nR K) = none := thI_none _ (fun s h1 h2 => hsm s h1 h2 (by have := (onN_in hr4.2 h1 h2).2; omega))
      rw [hn] at k
      have kk := k υ (scr ag) hSu
      exact ⟨fun w2 => absurd rfl w2, fun _ => kk⟩
    · unfold w_Shar_fewestReaders_l65
      refine LoopN (fun c y => ∃ s, c = 2 ^ nR K - s ∧ 1 ≤ s ∧ s ≤ 2 ^ nR K ∧ AgX xtP xl σ y.1 ∧ XS y.1 T K L ∧ LstX y.1 l ∧ Cst y.1 K d0 l l.length ∧ y.2 = nI s ∧ ∀ s', 1 ≤ s' → s' < s → onN s' = zz → shF K d0 l s' = false) ?_ (n := 2 ^ nR K - 1) ⟨1, rfl, Nat.le_refl _, hpw1, ag, hSu, hlu, hcu, rfl, by omega⟩
      rintro c ⟨υ, a3⟩ KK3 ⟨s, hc3, hs1, hs, ag, hSu, hlu, hcu, e3, hss⟩ ih3
      simp only [] at ag hSu hlu hcu e3 hss ⊢
      subst e3
      unfold w_Shar_fewestReaders_b65
      rw [hSu.1.1.nr, hr4.1, jshl_1 (by omega), nI_leI (by omega) (by omega)]
      refine ⟨fun w2 => ?_, fun w2 => ?_⟩
      · have hse : s = 2 ^ nR K := by omega
        subst hse
        rw [nI_1]
        refine ih2 (nR K + 1 - (zz + 1)) _ (by omega) ⟨zz + 1, rfl, by omega, by omega, ag, hSu, hlu, hcu, rfl, ?_⟩
        intro s' h1 h2 h3
        by_cases hz' : onN s' = zz
        · exact hss s' h1 h2 hz'
        · exact hsm s' h1 h2 (by omega)
      · have hon := onN_e (s := s) (by omega)
        have nx : ∀ υ', AgX xtP xl σ υ' → XS υ' T K L → LstX υ' l → Cst υ' K d0 l l.length → (onN s = zz → shF K d0 l s = false) → KK3 (υ', nI s + 1) := by
          intro υ' q1 q2 q3 q4 q5
          rw [nI_1]
          refine ih3 (2 ^ nR K - (s + 1)) _ (by omega) ⟨s + 1, rfl, by omega, by omega, q1, q2, q3, q4, rfl, ?_⟩
          intro s' h1 h2 h3
          by_cases hs' : s' = s
          · subst hs'; exact q5 h3
          · exact hss s' h1 (by omega) h3
        refine s_bitCount (by omega) ?_
        rw [hon.1, nI_eq (by omega) (by omega)]
        refine ⟨fun w3 => nx υ ag hSu hlu hcu (fun h => absurd h w3), fun w3 => ?_⟩
        unfold w_Shar_canShare w_Shar_canShare_l2
        refine LoopN (fun c y => ∃ r, c = nR K - r ∧ r ≤ nR K ∧ AgX (fun o p => o = 95) (fun _ => False) υ y.1 ∧ y.2 = nI r ∧ ∀ r', r' < r → (bOf (nI s) r' = true → gI y.1 95 r' = nI (voi K r')) ∧ (bOf (nI s) r' = false → gI y.1 95 r' = -1)) ?_ (n := nR K) ⟨0, rfl, Nat.zero_le _, AgX.refl υ, rfl, by omega⟩
        rintro c ⟨υ', a2''⟩ KK4 ⟨r, hc4, hr, ag', e4, hrm⟩ ih4
        simp only [] at ag' e4 hrm ⊢
        subst e4
        have hS' := hSu.ag ag' (by omega) (by omega) (by omega) (by omega)
        have hl' : LstX υ' l := ⟨by rw [ag'.i 90 6 (by omega)]; exact hlu.1, fun j x hx => by rw [ag'.i 93 j (by omega)]; exact hlu.2 j x hx⟩
        have hc' : Cst υ' K d0 l l.length := fun j x r' h1 h2 h3 => by rw [ag'.i 96 _ (by omega)]; exact hcu j x r' h1 h2 h3
        have agx : ∀ {υ1 υ2 : DD}, AgX (fun o p => o = 95) (fun _ => False) υ1 υ2 → AgX xtP xl υ1 υ2 := fun a => a.mono (by intro o p h; unfold xtP; omega) (fun o h => h.elim)
        unfold w_Shar_canShare_b2
        rw [hS'.1.1.nr, hr4.1, nI_leI (by omega) (by omega)]
        refine ⟨fun w4 => ?_, fun w4 => ?_⟩
        · have : r = nR K := by omega
          subst this
          unfold w_Shar_shareFrom
          refine s_shareFrom hI (set := bOf (nI s)) hd0 hl8 hlA l.length 0 12 (fun _ => 0) υ' _ (by omega) (by omega) hS' hl' hc' ?_ ?_
          · intro r' hr'
            refine ⟨fun hh => ⟨?_, Nat.zero_le _⟩, (hrm r' hr').2⟩
            rw [(hrm r' hr').1 hh]; rfl
          · intro τ agt _
            rw [List.drop_zero]
            refine ⟨bl_z _, ?_⟩
            have agT' := ag.trans ((agx ag').trans (agx agt))
            have hSt := hS'.ag agt (by omega) (by omega) (by omega) (by omega)
            have hlt : LstX τ l := ⟨by rw [agt.i 90 6 (by omega)]; exact hl'.1, fun j x hx => by rw [agt.i 93 j (by omega)]; exact hl'.2 j x hx⟩
            have hct : Cst τ K d0 l l.length := fun j x r' h1 h2 h3 => by rw [agt.i 96 _ (by omega)]; exact hc' j x r' h1 h2 h3
            refine br0 (fun hf => nx τ agT' hSt hlt hct (fun _ => hf)) (fun hf => ?_)
            have hB : thB (shF K d0 l) (2 ^ nR K) s := by
              refine ⟨hs1, by omega, hf, ?_⟩
              intro s' h1 h2 h3
              by_cases hlt' : onN s' < zz
              · rw [hsm s' h1 h2 hlt'] at h3; simp at h3
              · by_cases heq : onN s' = zz
                · by_cases hss' : s' < s
                  · rw [hss s' h1 hss' heq] at h3; simp at h3
                  · right; omega
                · left; omega
            rw [thI_uniq _ hB] at k
            have kk := k τ (scr agT') hSt
            simp only [] at kk
            refine ⟨fun _ => ⟨fun w5 => ?_, fun w5 => ?_⟩, fun w5 => absurd w5 (nI_m1 (by omega))⟩
            · rw [if_neg w5] at kk; exact kk
            · rw [if_pos w5] at kk; exact s_bitCount (by omega) kk
        · have hv := voi_e hI (r := r) (by omega)
          have j39 : ∀ x, ((bOf (nI s) r = true → x = nI (voi K r)) ∧ (bOf (nI s) r = false → x = -1)) → w_Shar_canShare_j39 T (fun σ a2 => KK4 (σ, a2)) (fun r5 σ6 => (r5 = 0 → KK3 (σ6, nI s + 1)) ∧ (¬ r5 = 0 → (¬ nI s = (-1) → (¬ a2 = 0 → post (nI s) σ6) ∧ (a2 = 0 → w_J6_bitCount_0f7a4 T σ6 (nI s) (fun r11 σ12 => post r11 σ12))) ∧ (nI s = (-1) → post (-1) σ6))) υ' (nI s) (nI r) (nI r) x := by
            intro x hx
            unfold w_Shar_canShare_j39
            rw [nI_clamp (by omega), nI_1]
            refine ⟨vp_in_nI (by omega) (by decide), fun σ1 e1 => ?_⟩
            refine ih4 (nR K - (r + 1)) _ (by omega) ⟨r + 1, rfl, by omega, ?_, rfl, ?_⟩
            · subst e1; exact ag'.set rfl
            · intro r' hr'
              subst e1
              rw [gI_sI]
              by_cases hrr : r' = r
              · subst hrr; rw [if_pos ⟨rfl, rfl⟩]; exact hx
              · rw [if_neg (fun y => hrr y.2)]; exact hrm r' (by omega)
          rw [bOf_bit (n := nR K) (by omega) (by omega) (by omega), decide_eq_true (show r < nR K by omega), Bool.true_and]
          refine br0 (fun hb => j39 _ ⟨fun hh => by rw [hb] at hh; simp at hh, fun _ => rfl⟩) (fun hb => ?_)
          rw [nI_clamp (by omega), hS'.1.1.vo (by omega), hv.1]
          exact ⟨vp_in_nI (by omega) (by decide), j39 _ ⟨fun _ => rfl, fun hh => by rw [hb] at hh; simp at hh⟩⟩
  · obtain ⟨a, ha, hal⟩ := get_lt (L := l) (i := i) (by omega)
    have hA := hlA a hal
    rw [nI_clamp (by omega), hlu.2 i a ha, nI_clamp (by omega), hSu.1.1.gs (by omega)]
    have e0b := bits_of hm (show nA K ≤ 16 by omega)
    have hm8 : nI m = bits (fun x => decide (x < nA K) && bOf (nI m) x) 8 := by
      conv => lhs; rw [e0b]
      rw [bits_N _ _ (by omega), bits_N _ 8 (by omega)]
      congr 1
      apply Nat.eq_of_testBit_eq
      intro x
      rw [bitsN_tb, bitsN_tb]
      by_cases hx : x < nA K
      · simp [hx, show x < 8 from by omega]
      · simp [hx]
    have hz : (bits (gsy K a) 8 &&& nI m = 0) ↔ ∀ b, b ∈ l → gsy K a b = false := by
      rw [hm8, bits_and _ _ (by omega), bits_eq0 (by omega)]
      constructor
      · intro h b hb
        have hb' := (hlB b).1 hb
        have := h b (by omega)
        simp [hb'.1, hb'.2] at this
        exact this
      · intro h x hx
        by_cases hxl : x ∈ l
        · rw [h x hxl]; rfl
        · have : ¬ (x < nA K ∧ bOf (nI m) x = true) := fun w => hxl ((hlB x).2 w)
          by_cases h1 : x < nA K
          · have h2 : bOf (nI m) x = false := by
              cases hh : bOf (nI m) x with
              | false => rfl
              | true => exact absurd ⟨h1, hh⟩ this
            rw [h2, Bool.and_false, Bool.and_false]
          · rw [decide_eq_false h1, Bool.false_and, Bool.and_false]
    rw [hz]
    refine ⟨vp_in_nI (by omega) (by decide), vp_in_nI (by omega) (by decide), fun w => ?_, fun w => ?_⟩
    · have hbad : clash K l = true := by
        simp only [Classical.not_forall] at w
        obtain ⟨b, hb, hg⟩ := w
        unfold clash
        rw [List.any_eq_true]
        refine ⟨a, hal, ?_⟩
        rw [List.any_eq_true]
        exact ⟨b, hb, by simpa using hg⟩
      have := bad υ ag hSu (Or.inl hbad)
      exact ⟨fun w2 => absurd rfl w2, fun _ => this⟩
    · refine s_XhasReader hSu (dayu υ ag) hd0 hlu hl8 ha hA hcu ?_
      intro υ2 ag2 hS2 hc2
      have agx2 : AgX xtP xl υ υ2 := ag2.mono (by intro o p h; rcases h with h | h; exact Or.inl h; unfold xtP; omega) (fun o h => h)
      refine br1 (fun hb => ?_) (fun hb => ?_)
      · rw [nI_1]
        refine ih (l.length - (i + 1)) _ (by omega) ⟨i + 1, rfl, by omega, ag.trans agx2, hS2, ⟨?_, ?_⟩, hc2, rfl, ?_⟩
        · rw [ag2.i 90 6 (by unfold xq; omega)]; exact hlu.1
        · intro j x hx; rw [ag2.i 93 j (by unfold xq; omega)]; exact hlu.2 j x hx
        · intro j a' hj ha' b hb'
          by_cases hji : j = i
          · subst hji; rw [ha] at ha'; injection ha' with ha'; subst ha'; exact w b hb'
          · exact hno j a' (by omega) ha' b hb'
      · have := bad υ2 (ag.trans agx2) hS2 (Or.inr ⟨a, hal, hb⟩)
        exact ⟨fun w2 => absurd rfl w2, fun _ => this⟩
end THX
