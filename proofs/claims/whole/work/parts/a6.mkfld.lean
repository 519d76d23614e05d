/-! ===== a field of what is being made gets what was made ===== -/
theorem no_an {w : WO} {o a q : Nat} {y : LY} (h : ¬ q = o) (n : wLy w q = none) : wLy (wAdd w o a y) q = none := (wLy_an h).trans n
theorem no_sn {w : WO} {o q : Nat} {y : LY} (h : ¬ q = o) (n : wLy w q = none) : wLy (wSet w o y) q = none := (wLy_sn h).trans n
theorem ha_an {w : WO} {o a q c : Nat} {y : LY} (h : ¬ q = o) (e : wAd w q = c) : wAd (wAdd w o a y) q = c := (wAd_an h).trans e
theorem ha_sn {w : WO} {o q c : Nat} {y : LY} (e : wAd w q = c) : wAd (wSet w o y) q = c := e
section MKF
variable {X : CT} {w : WO} {L : LIM} {nL : Nat} {Q : State → Prop} {σ : DD} {pc : Nat} {lv : List (Nat × Value)} {rest : List Value} {cc : ByteArray} {own : String} {rt : Option FieldType} {cw : Cond} {rm : Room} {b : BZ} {a o o' q ci : Nat} {y : LY} {S : Nat → Prop} {fs : List Value}
theorem r_nf (C : CG X (wAdd (wSet w o (lR ci fs)) o' q y) L nL cc own rt cw rm b) (hi : X.meth.name = "<init>") (hoo : ¬ o' = o) (hNR : NRs (wSet w o (lR ci fs)) σ S) (hyR : ∀ o1, S o1 → nRef (cle σ o') o' y o1) {ix k N : Nat} {ty : FieldType} (hF : FW own ix ci k N ty) (hfit : narrow ty (.ref q) = .ref q ∧ fits ty (.ref q) = true) (ha : wAd w o = a) (hk : k < fs.length) (hd : decode cc pc = .ok (.putfield ix, 3)) (fs' : List Value) (hfs : fs.set k (.ref q) = fs')
    (kk : CG X (wSet (wAdd w o' q y) o (lR ci fs')) L nL cc own rt cw rm b → NRs (wSet (wAdd w o' q y) o (lR ci fs')) (cle σ o') S → wAd (wAdd w o' q y) o = a → gW X (wSet (wAdd w o' q y) o (lR ci fs')) L nL Q (cle σ o') (pc + 3) lv rest) : gW X (wAdd (wSet w o (lR ci fs)) o' q y) L nL Q (cle σ o') pc lv (.ref q :: .ref a :: rest) := by
  have hN2 : NRs (wAdd (wSet w o (lR ci fs)) o' q y) (cle σ o') S := hNR.add hyR
  rw [ws_comm hoo] at C hN2 ⊢
  have ha2 : wAd (wAdd w o' q y) o = a := by rw [wAd_an (fun z => hoo z.symm)]; exact ha
  refine r_putR C hi hF o wLy_se (a := a) ha2 hfit.1 hfit.2 hk hd fs' hfs (fun C2 => ?_)
  have hN3 : NRs (wSet (wSet (wAdd w o' q y) o (lR ci fs)) o (lR ci fs')) (cle σ o') S := hN2.set
  rw [ws_ws] at C2 hN3 ⊢
  exact kk C2 hN3 ha2
/-- a field of a number, or of what was given -/
theorem r_pf (C : CG X (wSet w o (lR ci fs)) L nL cc own rt cw rm b) (hi : X.meth.name = "<init>") (hNR : NRs (wSet w o (lR ci fs)) σ S) {ix k N : Nat} {ty : FieldType} (hF : FW own ix ci k N ty) {v : Value} (hfit : narrow ty v = v ∧ fits ty v = true) (ha : wAd w o = a) (hk : k < fs.length) (hd : decode cc pc = .ok (.putfield ix, 3)) (fs' : List Value) (hfs : fs.set k v = fs')
    (kk : CG X (wSet w o (lR ci fs')) L nL cc own rt cw rm b → NRs (wSet w o (lR ci fs')) σ S → gW X (wSet w o (lR ci fs')) L nL Q σ (pc + 3) lv rest) : gW X (wSet w o (lR ci fs)) L nL Q σ pc lv (v :: .ref a :: rest) := by
  refine r_putR C hi hF o wLy_se (a := a) ha hfit.1 hfit.2 hk hd fs' hfs (fun C2 => ?_)
  have hN3 : NRs (wSet (wSet w o (lR ci fs)) o (lR ci fs')) σ S := hNR.set
  rw [ws_ws] at C2 hN3 ⊢
  exact kk C2 hN3
/-- at first it is as it was made -/
theorem ws_id (h : wLy w o = some y) : wSet w o y = w := by
  have e : (fun j => bif Nat.beq j o then some y else wLy w j) = wLy w := by
    funext j
    by_cases c : j = o
    · rw [c, bq_t, h]; rfl
    · rw [bq_f c]; rfl
  show ((w.1, w.2.1, w.2.2.1, (fun j => bif Nat.beq j o then some y else wLy w j), w.2.2.2.2) : WO) = w
  rw [e]
  rfl
end MKF
