/-! ===== the law's loop, over any tie that all 41 calls keep ===== -/
theorem x4_lt {L j : Nat} (hL : L ≤ 3584) (hj : j ≤ 512) : (nI L - 7 < nI (7 * j)) ↔ L < 7 * j + 7 := by
  have e : nI L - 7 = Int32.ofInt ((L : Int) - 7) := by
    apply Int32.toInt_inj.mp
    rw [Int32.toInt_sub, nI_toInt (by omega), show (7 : Int32).toInt = 7 from rfl, Int32.toInt_ofInt]
  rw [Int32.lt_iff_toInt_lt, e, Int32.toInt_ofInt, nI_toInt (by omega)]
  have hs : ((Int32.size : Nat) : Int) = 4294967296 := rfl
  rw [Int.bmod_def, hs]
  split <;> omega
theorem x4_in {L j i : Nat} (hL : L ≤ 3584) (hj : 7 * j + 7 ≤ L) (hi : i < 7) : vp_in (nI (7 * j) + nI i) L := by
  rw [nI_add]
  exact nI_in (by omega) (by omega)
theorem x4_s (j : Nat) : nI (7 * j) + 7 = nI (7 * (j + 1)) := by
  rw [show (7 : Int32) = nI 7 from rfl, nI_add, Nat.mul_succ]
section NLB
variable {g : EG} {p : Program} {l : Launch} {e : Env} {R : Room} {s : State} {m : MethodId} {args : Array Value} {below : List Frame} {meth : Method} {c : Code} {A : Nat → Prop} {Q : State → Prop} {nL : Nat} {cc : ByteArray} {own : String} {ws : va_W} {cells slots : Nat} {lv lv' : List (Nat × Value)} {pc : Nat} {st : List Value}
theorem nw_ts1 (C : Cx g p s m args meth c A nL cc own) {dflt hi : Int} {offs : Array Int} {len : Nat} {x : Int32} {off : Int} {tgt : Nat} (i : Nat) (hd : decode cc pc = .ok (.tableswitch dflt 0 hi offs, len)) (h0 : x.toInt < 0 ∨ (i : Int) ≤ x.toInt) (hhi : (i : Int) ≤ hi) (ho : offs[i]? = some off) (ht : (pc : Int) + off = (tgt : Int))
    (k1 : Nw g p l e R s m args below meth c A Q nL ws cells slots lv tgt st) (k2 : (x.toInt < 0 ∨ ((i + 1 : Nat) : Int) ≤ x.toInt) → Nw g p l e R s m args below meth c A Q nL ws cells slots lv pc (.int x :: st)) : Nw g p l e R s m args below meth c A Q nL ws cells slots lv pc (.int x :: st) := by
  by_cases hx : x.toInt = (i : Int)
  · exact fun H locs ls hP hD hS hl => lv_tableIn C.1 C.2.1 hd (by omega) (by omega) (by rw [hx, show ((i : Int) - 0).toNat = i by omega]; exact ho) ht (k1 H locs ls hP hD hS hl)
  · exact k2 (by omega)
theorem nw_tsD (C : Cx g p s m args meth c A nL cc own) {dflt lo hi : Int} {offs : Array Int} {len : Nat} {x : Int32} {tgt : Nat} (hd : decode cc pc = .ok (.tableswitch dflt lo hi offs, len)) (h : x.toInt < lo ∨ hi < x.toInt) (ht : (pc : Int) + dflt = (tgt : Int))
    (k1 : Nw g p l e R s m args below meth c A Q nL ws cells slots lv tgt st) : Nw g p l e R s m args below meth c A Q nL ws cells slots lv pc (.int x :: st) :=
  fun H locs ls hP hD hS hl => lv_tableOut C.1 C.2.1 hd h ht (k1 H locs ls hP hD hS hl)
theorem nw_perm {ws' : va_W} (h : ws'.Perm ws) (k : Nw g p l e R s m args below meth c A Q nL ws' cells slots lv pc st) : Nw g p l e R s m args below meth c A Q nL ws cells slots lv pc st := by
  intro H locs ls hP hD hS hl
  have hm : ∀ q, q ∈ ws' → q ∈ ws := fun q hq => h.mem_iff.mp hq
  have hn : List.Pairwise (fun a b => a ≠ b) (ws.map (fun q => q.1)) := by
    rw [List.pairwise_iff_getElem]
    intro i j hi hj hij hc
    rw [List.length_map] at hi hj
    simp only [List.getElem_map] at hc
    exact absurd (hD.1 i j _ _ (List.getElem?_eq_getElem hi) (List.getElem?_eq_getElem hj) hc) (by omega)
  have hn' : List.Pairwise (fun a b => a ≠ b) (ws'.map (fun q => q.1)) := (List.Perm.pairwise_iff (fun h => Ne.symm h) (h.map (fun q => q.1))).mpr hn
  refine k H locs ls (fun i q hq => ?_) ⟨fun i j q1 q2 h1 h2 h3 => ?_, fun i q hq => ?_⟩ hS hl
  · obtain ⟨i', hi'⟩ := List.mem_iff_getElem?.mp (hm q (List.mem_of_getElem? hq))
    exact hP i' q hi'
  · rw [List.pairwise_iff_getElem] at hn'
    obtain ⟨l1, e1⟩ := List.getElem?_eq_some_iff.mp h1
    obtain ⟨l2, e2⟩ := List.getElem?_eq_some_iff.mp h2
    rcases Nat.lt_trichotomy i j with hlt | heq | hgt
    · have h4 := hn' i j (by rw [List.length_map]; exact l1) (by rw [List.length_map]; exact l2) hlt
      rw [List.getElem_map, List.getElem_map, e1, e2] at h4
      exact absurd h3 h4
    · exact heq
    · have h4 := hn' j i (by rw [List.length_map]; exact l2) (by rw [List.length_map]; exact l1) hgt
      rw [List.getElem_map, List.getElem_map, e1, e2] at h4
      exact absurd h3.symm h4
  · obtain ⟨i', hi'⟩ := List.mem_iff_getElem?.mp (hm q (List.mem_of_getElem? hq))
    exact hD.2 i' q hi'
end NLB
section
variable {g : EG} {p : Program} {l : Launch} {e : Env} {s : State} {m : MethodId} {args : Array Value} {below : List Frame} {meth : Method} {c : Code} {A : Nat → Prop} {ad am ta : Nat → Nat} {Rr : va_W} {φ0 : Nat} {Q : State → Prop}
def Ag_wait (Inv : CS → CS → Prop) : Prop := ∀ (σ τ : CS) (a0 : Int32), Inv σ τ → AgT Inv (f_FC_wait a0 σ) (f_M_wait a0 τ) (fun c0 => c0 = 0 ∨ c0 = 1 ∨ c0 = 2) (fun c0 => (if c0 = 0 then (0 : Int32) else if c0 = 1 then 1 else 2))
def Ag_mark (Inv : CS → CS → Prop) : Prop := ∀ (σ τ : CS) (a0 a1 a2 : Int32), Inv σ τ → AgT Inv (f_FC_mark a0 a1 a2 σ) (f_M_mark a0 a1 a2 τ) (fun c0 => c0 = 0 ∨ c0 = 1 ∨ c0 = 2) (fun c0 => (if c0 = 0 then (0 : Int32) else if c0 = 1 then 1 else 2))
def Ag_feed (Inv : CS → CS → Prop) : Prop := ∀ (σ τ : CS) (a0 a1 a2 a3 a4 : Int32), Inv σ τ → AgN Inv (f_FC_feed a0 a1 a2 a3 a4 σ) (f_M_feed a0 a1 a2 a3 a4 τ)
def Ag_ring (Inv : CS → CS → Prop) : Prop := ∀ (σ τ : CS) (a0 a1 : Int32), Inv σ τ → AgT Inv (f_FC_ring a0 a1 σ) (f_M_ring a0 a1 τ) (fun c0 => c0 = 0 ∨ c0 = 1) (fun c0 => (if c0 = 0 then (0 : Int32) else 1))
def Ag_unring (Inv : CS → CS → Prop) : Prop := ∀ (σ τ : CS) (a0 a1 : Int32), Inv σ τ → AgT Inv (f_FC_unring a0 a1 σ) (f_M_unring a0 a1 τ) (fun c0 => c0 = 0 ∨ c0 = 3 ∨ c0 = 1) (fun c0 => (if c0 = 0 then (0 : Int32) else if c0 = 3 then 1 else 2))
def Ag_strip (Inv : CS → CS → Prop) : Prop := ∀ (σ τ : CS) (a0 : Int32), Inv σ τ → AgT Inv (f_FC_strip a0 σ) (f_M_strip a0 τ) (fun c0 => c0 = 0 ∨ c0 = 1) (fun c0 => (if c0 = 0 then (0 : Int32) else 1))
def Ag_bounds (Inv : CS → CS → Prop) : Prop := ∀ (σ τ : CS) (a0 : Int32), Inv σ τ → AgT Inv (f_FC_bounds a0 σ) (f_M_bounds a0 τ) (fun c0 => c0 = 0 ∨ c0 = 1) (fun c0 => (if c0 = 0 then (0 : Int32) else 1))
def Ag_where (Inv : CS → CS → Prop) : Prop := ∀ (σ τ : CS) (a0 a1 a2 : Int32), Inv σ τ → AgT Inv (f_FC_where a0 a1 a2 σ) (f_M_where a0 a1 a2 τ) (fun c0 => c0 = 0 ∨ c0 = 1) (fun c0 => (if c0 = 0 then (0 : Int32) else 1))
def Ag_walk (Inv : CS → CS → Prop) : Prop := ∀ (σ τ : CS) (a0 : Int32), Inv σ τ → AgT Inv (f_FC_walk a0 σ) (f_M_walk a0 τ) (fun c0 => c0 = 0 ∨ c0 = 1) (fun c0 => (if c0 = 0 then (0 : Int32) else 1))
def Ag_walked (Inv : CS → CS → Prop) : Prop := ∀ (σ τ : CS) (a0 : Int32), Inv σ τ → AgN Inv (f_FC_walked a0 σ) (f_M_walked a0 τ)
def Ag_rivals (Inv : CS → CS → Prop) : Prop := ∀ (σ τ : CS), Inv σ τ → AgN Inv (f_FC_rivals  σ) (f_M_rivals  τ)
def Ag_text (Inv : CS → CS → Prop) : Prop := ∀ (σ τ : CS) (a0 a1 : Int32), Inv σ τ → AgT Inv (f_FC_text a0 a1 σ) (f_M_text a0 a1 τ) (fun c0 => c0 = 0 ∨ c0 = 1) (fun c0 => (if c0 = 0 then (0 : Int32) else 1))
def Ag_fault (Inv : CS → CS → Prop) : Prop := ∀ (σ τ : CS), Inv σ τ → AgN Inv (f_FC_fault  σ) (f_M_fault  τ)
def Ag_force (Inv : CS → CS → Prop) : Prop := ∀ (σ τ : CS) (a0 a1 : Int32), Inv σ τ → AgT Inv (f_FC_force a0 a1 σ) (f_M_force a0 a1 τ) (fun c0 => c0 = 0 ∨ c0 = 3 ∨ c0 = 1) (fun c0 => (if c0 = 0 then (0 : Int32) else if c0 = 3 then 1 else 2))
def Ag_rule (Inv : CS → CS → Prop) : Prop := ∀ (σ τ : CS) (a0 a1 : Int32), Inv σ τ → AgT Inv (f_FC_rule a0 a1 σ) (f_M_rule a0 a1 τ) (fun c0 => c0 = 0 ∨ c0 = 1) (fun c0 => (if c0 = 0 then (0 : Int32) else 1))
def Ag_person (Inv : CS → CS → Prop) : Prop := ∀ (σ τ : CS) (a0 a1 : Int32), Inv σ τ → AgT Inv (f_FC_person a0 a1 σ) (f_M_person a0 a1 τ) (fun c0 => c0 = 0 ∨ c0 = 1 ∨ c0 = 2) (fun c0 => (if c0 = 0 then (0 : Int32) else if c0 = 1 then 1 else 2))
def Ag_heir (Inv : CS → CS → Prop) : Prop := ∀ (σ τ : CS) (a0 a1 : Int32), Inv σ τ → AgT Inv (f_FC_heir a0 a1 σ) (f_M_heir a0 a1 τ) (fun c0 => c0 = 0 ∨ c0 = 3 ∨ c0 = 1) (fun c0 => (if c0 = 0 then (0 : Int32) else if c0 = 3 then 1 else 2))
def Ag_die (Inv : CS → CS → Prop) : Prop := ∀ (σ τ : CS) (a0 : Int32), Inv σ τ → AgT Inv (f_FC_die a0 σ) (f_M_die a0 τ) (fun c0 => c0 = 0 ∨ c0 = 3) (fun c0 => (if c0 = 0 then (0 : Int32) else 1))
def Ag_told (Inv : CS → CS → Prop) : Prop := ∀ (σ τ : CS) (a0 a1 : Int32), Inv σ τ → AgT Inv (f_FC_told a0 a1 σ) (f_M_told a0 a1 τ) (fun c0 => c0 = 0 ∨ c0 = 3 ∨ c0 = 1) (fun c0 => (if c0 = 0 then (0 : Int32) else if c0 = 3 then 1 else 2))
def Ag_warden (Inv : CS → CS → Prop) : Prop := ∀ (σ τ : CS) (a0 a1 a2 : Int32), Inv σ τ → AgT Inv (f_FC_warden a0 a1 a2 σ) (f_M_warden a0 a1 a2 τ) (fun c0 => c0 = 0 ∨ c0 = 3 ∨ c0 = 1) (fun c0 => (if c0 = 0 then (0 : Int32) else if c0 = 3 then 1 else 2))
def Ag_deed (Inv : CS → CS → Prop) : Prop := ∀ (σ τ : CS) (a0 a1 a2 a3 a4 a5 : Int32), Inv σ τ → AgT Inv (f_FC_deed a0 a1 a2 a3 a4 a5 σ) (f_M_deed a0 a1 a2 a3 a4 a5 τ) (fun c0 => c0 = 0 ∨ c0 = 3 ∨ c0 = 1) (fun c0 => (if c0 = 0 then (0 : Int32) else if c0 = 3 then 1 else 2))
def Ag_barred (Inv : CS → CS → Prop) : Prop := ∀ (σ τ : CS) (a0 : Int32), Inv σ τ → AgT Inv (f_FC_barred a0 σ) (f_M_barred a0 τ) (fun c0 => c0 = 0 ∨ c0 = 3) (fun c0 => (if c0 = 0 then (0 : Int32) else 1))
def Ag_why (Inv : CS → CS → Prop) : Prop := ∀ (σ τ : CS) (a0 : Int32), Inv σ τ → AgT Inv (f_FC_why a0 σ) (f_M_why a0 τ) (fun c0 => c0 = 0 ∨ c0 = 3) (fun c0 => (if c0 = 0 then (0 : Int32) else 1))
def Ag_fine (Inv : CS → CS → Prop) : Prop := ∀ (σ τ : CS) (a0 : Int32), Inv σ τ → AgT Inv (f_FC_fine a0 σ) (f_M_fine a0 τ) (fun c0 => c0 = 0 ∨ c0 = 3) (fun c0 => (if c0 = 0 then (0 : Int32) else 1))
def Ag_present (Inv : CS → CS → Prop) : Prop := ∀ (σ τ : CS) (a0 a1 a2 a3 : Int32), Inv σ τ → AgT Inv (f_FC_present a0 a1 a2 a3 σ) (f_M_present a0 a1 a2 a3 τ) (fun c0 => c0 = 0 ∨ c0 = 3) (fun c0 => (if c0 = 0 then (0 : Int32) else 1))
def Ag_proof (Inv : CS → CS → Prop) : Prop := ∀ (σ τ : CS) (a0 a1 : Int32), Inv σ τ → AgT Inv (f_FC_proof a0 a1 σ) (f_M_proof a0 a1 τ) (fun c0 => c0 = 0 ∨ c0 = 3 ∨ c0 = 1) (fun c0 => (if c0 = 0 then (0 : Int32) else if c0 = 3 then 1 else 2))
def Ag_of (Inv : CS → CS → Prop) : Prop := ∀ (σ τ : CS) (a0 a1 : Int32), Inv σ τ → AgT Inv (f_FC_of a0 a1 σ) (f_M_of a0 a1 τ) (fun c0 => c0 = 0 ∨ c0 = 3 ∨ c0 = 1) (fun c0 => (if c0 = 0 then (0 : Int32) else if c0 = 3 then 1 else 2))
def Ag_claim (Inv : CS → CS → Prop) : Prop := ∀ (σ τ : CS) (a0 a1 a2 a3 : Int32), Inv σ τ → AgT Inv (f_FC_claim a0 a1 a2 a3 σ) (f_M_claim a0 a1 a2 a3 τ) (fun c0 => c0 = 0 ∨ c0 = 3 ∨ c0 = 1) (fun c0 => (if c0 = 0 then (0 : Int32) else if c0 = 3 then 1 else 2))
def Ag_use (Inv : CS → CS → Prop) : Prop := ∀ (σ τ : CS) (a0 a1 a2 : Int32), Inv σ τ → AgT Inv (f_FC_use a0 a1 a2 σ) (f_M_use a0 a1 a2 τ) (fun c0 => c0 = 0 ∨ c0 = 3 ∨ c0 = 1) (fun c0 => (if c0 = 0 then (0 : Int32) else if c0 = 3 then 1 else 2))
def Ag_sure (Inv : CS → CS → Prop) : Prop := ∀ (σ τ : CS) (a0 a1 : Int32), Inv σ τ → AgT Inv (f_FC_sure a0 a1 σ) (f_M_sure a0 a1 τ) (fun c0 => c0 = 0 ∨ c0 = 3 ∨ c0 = 1) (fun c0 => (if c0 = 0 then (0 : Int32) else if c0 = 3 then 1 else 2))
def Ag_enter (Inv : CS → CS → Prop) : Prop := ∀ (σ τ : CS) (a0 a1 a2 : Int32), Inv σ τ → AgT Inv (f_FC_enter a0 a1 a2 σ) (f_M_enter a0 a1 a2 τ) (fun c0 => c0 = 0 ∨ c0 = 3 ∨ c0 = 1) (fun c0 => (if c0 = 0 then (0 : Int32) else if c0 = 3 then 1 else 2))
def Ag_quarrel (Inv : CS → CS → Prop) : Prop := ∀ (σ τ : CS), Inv σ τ → AgN Inv (f_FC_quarrel  σ) (f_M_quarrel  τ)
def Ag_joined (Inv : CS → CS → Prop) : Prop := ∀ (σ τ : CS) (a0 a1 : Int32), Inv σ τ → AgT Inv (f_FC_joined a0 a1 σ) (f_M_joined a0 a1 τ) (fun c0 => c0 = 0 ∨ c0 = 1) (fun c0 => (if c0 = 0 then (0 : Int32) else 1))
def Ag_lodge (Inv : CS → CS → Prop) : Prop := ∀ (σ τ : CS) (a0 a1 a2 a3 : Int32), Inv σ τ → AgT Inv (f_FC_lodge a0 a1 a2 a3 σ) (f_M_lodge a0 a1 a2 a3 τ) (fun c0 => c0 = 0 ∨ c0 = 3 ∨ c0 = 1) (fun c0 => (if c0 = 0 then (0 : Int32) else if c0 = 3 then 1 else 2))
def Ag_spot (Inv : CS → CS → Prop) : Prop := ∀ (σ τ : CS) (a0 a1 a2 : Int32), Inv σ τ → AgT Inv (f_FC_spot a0 a1 a2 σ) (f_M_spot a0 a1 a2 τ) (fun c0 => c0 = 0 ∨ c0 = 1) (fun c0 => (if c0 = 0 then (0 : Int32) else 1))
def Ag_beats (Inv : CS → CS → Prop) : Prop := ∀ (σ τ : CS), Inv σ τ → AgN Inv (f_FC_beats  σ) (f_M_beats  τ)
def Ag_beat (Inv : CS → CS → Prop) : Prop := ∀ (σ τ : CS) (a0 : Int32), Inv σ τ → AgT Inv (f_FC_beat a0 σ) (f_M_beat a0 τ) (fun c0 => c0 = 0 ∨ c0 = 3) (fun c0 => (if c0 = 0 then (0 : Int32) else 1))
def Ag_wood (Inv : CS → CS → Prop) : Prop := ∀ (σ τ : CS) (a0 a1 a2 : Int32), Inv σ τ → AgT Inv (f_FC_wood a0 a1 a2 σ) (f_M_wood a0 a1 a2 τ) (fun c0 => c0 = 0 ∨ c0 = 1) (fun c0 => (if c0 = 0 then (0 : Int32) else 1))
def Ag_take (Inv : CS → CS → Prop) : Prop := ∀ (σ τ : CS) (a0 a1 a2 a3 : Int32), Inv σ τ → AgT Inv (f_FC_take a0 a1 a2 a3 σ) (f_M_take a0 a1 a2 a3 τ) (fun c0 => c0 = 0 ∨ c0 = 3 ∨ c0 = 1) (fun c0 => (if c0 = 0 then (0 : Int32) else if c0 = 3 then 1 else 2))
def Ag_stock (Inv : CS → CS → Prop) : Prop := ∀ (σ τ : CS) (a0 a1 a2 a3 : Int32), Inv σ τ → AgT Inv (f_FC_stock a0 a1 a2 a3 σ) (f_M_stock a0 a1 a2 a3 τ) (fun c0 => c0 = 0 ∨ c0 = 3 ∨ c0 = 1) (fun c0 => (if c0 = 0 then (0 : Int32) else if c0 = 3 then 1 else 2))
def Ag_count (Inv : CS → CS → Prop) : Prop := ∀ (σ τ : CS) (a0 : Int32), Inv σ τ → AgN Inv (f_FC_count a0 σ) (f_M_count a0 τ)
/-- what the tie owes: each of the 41 calls answers alike and keeps it -/
def AgAll (Inv : CS → CS → Prop) : Prop := Ag_wait Inv ∧ Ag_mark Inv ∧ Ag_feed Inv ∧ Ag_ring Inv ∧ Ag_unring Inv ∧ Ag_strip Inv ∧ Ag_bounds Inv ∧ Ag_where Inv ∧ Ag_walk Inv ∧ Ag_walked Inv ∧ Ag_rivals Inv ∧ Ag_text Inv ∧ Ag_fault Inv ∧ Ag_force Inv ∧ Ag_rule Inv ∧ Ag_person Inv ∧ Ag_heir Inv ∧ Ag_die Inv ∧ Ag_told Inv ∧ Ag_warden Inv ∧ Ag_deed Inv ∧ Ag_barred Inv ∧ Ag_why Inv ∧ Ag_fine Inv ∧ Ag_present Inv ∧ Ag_proof Inv ∧ Ag_of Inv ∧ Ag_claim Inv ∧ Ag_use Inv ∧ Ag_sure Inv ∧ Ag_enter Inv ∧ Ag_quarrel Inv ∧ Ag_joined Inv ∧ Ag_lodge Inv ∧ Ag_spot Inv ∧ Ag_beats Inv ∧ Ag_beat Inv ∧ Ag_wood Inv ∧ Ag_take Inv ∧ Ag_stock Inv ∧ Ag_count Inv
set_option maxHeartbeats 4000000 in
set_option maxRecDepth 100000 in
theorem law_loop (C : Cx g p s m args meth c A 7 cL_law "ForestCourtsLaw") (hl : l.stackTraces = false) {Inv : CS → CS → Prop} (hAg : AgAll Inv) {b L ao : Nat} {xs : Nat → Int32} (hL : L ≤ 3584) (hX : va_X b L xs s s.heap) (hbl : b < s.heap.size) (hbA : ¬ A b)
    (hend : ∀ (ws : va_W) (cells slots : Nat) (lv : List (Nat × Value)), cells ≤ 601024 → slots ≤ 7293033 → Nw g p l e room_1 s m args below meth c A Q 7 ws cells slots lv 2873 []) :
    ∀ (n j : Nat) (σ τ : CS) (ta : Nat → Nat) (f : Nat → Int64) (cells slots : Nat), j + n = 513 → j ≤ 512 → Inv σ τ → ph σ.2.2 ≤ BB → cells + (BB - ph σ.2.2) + n ≤ 601024 → slots + 2 * (BB - ph σ.2.2) + 6 * n ≤ 7293033 → Nw g p l e room_1 s m args below meth c A Q 7 (cw g ad ta σ ++ (mw g am τ ++ [oWl g ao f])) (cells) (slots) [(0, .ref b), (1, .ref (ad 0)), (2, .ref (am 112)), (3, .ref ao), (4, .int (nI (7 * j)))] 23 [] := by
  obtain ⟨g_wait, g_mark, g_feed, g_ring, g_unring, g_strip, g_bounds, g_where, g_walk, g_walked, g_rivals, g_text, g_fault, g_force, g_rule, g_person, g_heir, g_die, g_told, g_warden, g_deed, g_barred, g_why, g_fine, g_present, g_proof, g_of, g_claim, g_use, g_sure, g_enter, g_quarrel, g_joined, g_lodge, g_spot, g_beats, g_beat, g_wood, g_take, g_stock, g_count⟩ := hAg
  intro n
  induction n with
  | zero => intro j σ τ ta f cells slots h1 h2; omega
  | succ n ih =>
    intro j σ τ ta f cells slots hjn hj hI hφ hcl hsl
    refine nw_iload C dL_law_23 4 rfl ?_
    refine nw_aload_n C dL_law_25 rfl 0 rfl ?_
    refine nw_scrlen C hX hbl hbA dL_law_26 ?_
    refine nw_bipush (v := 7) C dL_law_27 (by decide) ?_
    refine nw_isub C dL_law_29 ?_
    have q1 : (if nI L - 7 < nI (7 * j) then some 1 else some 2) = some (if nI L - 7 < nI (7 * j) then 1 else 2) := by split <;> rfl
    refine nw_icmp_gt (tgt := 2873) C dL_law_30 (by decide) q1 (fun _ _ => hend _ _ _ _ (by omega) (by omega)) (fun hn _ => ?_)
    rw [x4_lt hL hj] at hn
    have hv : 7 * j + 7 ≤ L := by omega
    have h0 : vp_in (nI (7 * j)) L := nI_in (by omega) (by omega)
    have h1 : vp_in (nI (7 * j) + 1) L := x4_in (i := 1) hL hv (by omega)
    have h2 : vp_in (nI (7 * j) + 2) L := x4_in (i := 2) hL hv (by omega)
    have h3 : vp_in (nI (7 * j) + 3) L := x4_in (i := 3) hL hv (by omega)
    have h4 : vp_in (nI (7 * j) + 4) L := x4_in (i := 4) hL hv (by omega)
    have h5 : vp_in (nI (7 * j) + 5) L := x4_in (i := 5) hL hv (by omega)
    have h6 : vp_in (nI (7 * j) + 6) L := x4_in (i := 6) hL hv (by omega)
    have kend : ∀ (σ1 τ1 : CS) (ta1 : Nat → Nat) (f1 : Nat → Int64), Inv σ1 τ1 → ph σ.2.2 ≤ ph σ1.2.2 → ph σ1.2.2 ≤ BB → Nw g p l e room_1 s m args below meth c A Q 7 (cw g ad ta1 σ1 ++ (mw g am τ1 ++ [oWl g ao f1])) (cells + (ph σ1.2.2 - ph σ.2.2 + 1)) (slots + (2 * (ph σ1.2.2 - ph σ.2.2) + 6)) [(0, .ref b), (1, .ref (ad 0)), (2, .ref (am 112)), (3, .ref ao), (4, .int (nI (7 * j)))] 2867 [] := by
      intro σ1 τ1 ta1 f1 hI1 hp1 hp2
      refine nw_iinc C (nI (7 * (j + 1))) dL_law_2867 4 rfl (x4_s j) (by decide) rfl ?_
      refine nw_goto (tgt := 23) C dL_law_2870 (by decide) ?_
      refine nw_lv (lv' := [(0, .ref b), (1, .ref (ad 0)), (2, .ref (am 112)), (3, .ref ao), (4, .int (nI (7 * (j + 1))))]) [1, 2, 3, 4, 0] rfl ?_
      by_cases hj2 : j + 1 ≤ 512
      · exact ih (j + 1) σ1 τ1 ta1 f1 _ _ (by omega) hj2 hI1 hp2 (by omega) (by omega)
      · omega
    refine nw_aload_n C dL_law_33 rfl 0 rfl ?_
    refine nw_iload C dL_law_34 4 rfl ?_
    refine nw_scr C hX hbl hbA h0 dL_law_36 ?_
    refine nw_bipush (v := 63) C dL_law_37 (by decide) ?_
    refine nw_iand C dL_law_39 ?_
    have t0 : ((xs (nI (7 * j)).toNatClampNeg) &&& 63).toInt < 0 ∨ ((0 : Nat) : Int) ≤ ((xs (nI (7 * j)).toNatClampNeg) &&& 63).toInt := by omega
    refine nw_ts1 (tgt := 220) C 0 dL_law_40 t0 (by decide) rfl (by decide) (lc_wait C hl hX hbl hbA h1 (g_wait σ τ _ hI) hφ (by omega) (by omega) kend) (fun t1 => ?_)
    refine nw_ts1 (tgt := 276) C 1 dL_law_40 t1 (by decide) rfl (by decide) (lc_mark C hl hX hbl hbA h1 h2 h3 (g_mark σ τ _ _ _ hI) hφ (by omega) (by omega) kend) (fun t2 => ?_)
    refine nw_ts1 (tgt := 356) C 2 dL_law_40 t2 (by decide) rfl (by decide) (lc_feed C hl hX hbl hbA h1 h2 h3 h4 h5 (g_feed σ τ _ _ _ _ _ hI) hφ (by omega) (by omega) kend) (fun t3 => ?_)
    refine nw_ts1 (tgt := 429) C 3 dL_law_40 t3 (by decide) rfl (by decide) (lc_ring C hl hX hbl hbA h1 h2 (g_ring σ τ _ _ hI) hφ (by omega) (by omega) kend) (fun t4 => ?_)
    refine nw_ts1 (tgt := 497) C 4 dL_law_40 t4 (by decide) rfl (by decide) (lc_unring C hl hX hbl hbA h1 h2 (g_unring σ τ _ _ hI) hφ (by omega) (by omega) kend) (fun t5 => ?_)
    refine nw_ts1 (tgt := 565) C 5 dL_law_40 t5 (by decide) rfl (by decide) (lc_strip C hl hX hbl hbA h1 (g_strip σ τ _ hI) hφ (by omega) (by omega) kend) (fun t6 => ?_)
    refine nw_ts1 (tgt := 621) C 6 dL_law_40 t6 (by decide) rfl (by decide) (lc_bounds C hl hX hbl hbA h1 (g_bounds σ τ _ hI) hφ (by omega) (by omega) kend) (fun t7 => ?_)
    refine nw_ts1 (tgt := 677) C 7 dL_law_40 t7 (by decide) rfl (by decide) (lc_where C hl hX hbl hbA h1 h2 h3 (g_where σ τ _ _ _ hI) hφ (by omega) (by omega) kend) (fun t8 => ?_)
    refine nw_ts1 (tgt := 757) C 8 dL_law_40 t8 (by decide) rfl (by decide) (lc_walk C hl hX hbl hbA h1 (g_walk σ τ _ hI) hφ (by omega) (by omega) kend) (fun t9 => ?_)
    refine nw_ts1 (tgt := 813) C 9 dL_law_40 t9 (by decide) rfl (by decide) (lc_walked C hl hX hbl hbA h1 (g_walked σ τ _ hI) hφ (by omega) (by omega) kend) (fun t10 => ?_)
    refine nw_ts1 (tgt := 838) C 10 dL_law_40 t10 (by decide) rfl (by decide) (lc_rivals C hl hX hbl hbA  (g_rivals σ τ  hI) hφ (by omega) (by omega) kend) (fun t11 => ?_)
    refine nw_ts1 (tgt := 851) C 11 dL_law_40 t11 (by decide) rfl (by decide) (lc_text C hl hX hbl hbA h1 h2 (g_text σ τ _ _ hI) hφ (by omega) (by omega) kend) (fun t12 => ?_)
    refine nw_ts1 (tgt := 919) C 12 dL_law_40 t12 (by decide) rfl (by decide) (lc_fault C hl hX hbl hbA  (g_fault σ τ  hI) hφ (by omega) (by omega) kend) (fun t13 => ?_)
    refine nw_ts1 (tgt := 932) C 13 dL_law_40 t13 (by decide) rfl (by decide) (lc_force C hl hX hbl hbA h1 h2 (g_force σ τ _ _ hI) hφ (by omega) (by omega) kend) (fun t14 => ?_)
    refine nw_ts1 (tgt := 1007) C 14 dL_law_40 t14 (by decide) rfl (by decide) (lc_rule C hl hX hbl hbA h1 h2 (g_rule σ τ _ _ hI) hφ (by omega) (by omega) kend) (fun t15 => ?_)
    refine nw_ts1 (tgt := 1075) C 15 dL_law_40 t15 (by decide) rfl (by decide) (lc_person C hl hX hbl hbA h1 h2 (g_person σ τ _ _ hI) hφ (by omega) (by omega) kend) (fun t16 => ?_)
    refine nw_ts1 (tgt := 1143) C 16 dL_law_40 t16 (by decide) rfl (by decide) (lc_heir C hl hX hbl hbA h1 h2 (g_heir σ τ _ _ hI) hφ (by omega) (by omega) kend) (fun t17 => ?_)
    refine nw_ts1 (tgt := 1211) C 17 dL_law_40 t17 (by decide) rfl (by decide) (lc_die C hl hX hbl hbA h1 (g_die σ τ _ hI) hφ (by omega) (by omega) kend) (fun t18 => ?_)
    refine nw_ts1 (tgt := 1267) C 18 dL_law_40 t18 (by decide) rfl (by decide) (lc_told C hl hX hbl hbA h1 h2 (g_told σ τ _ _ hI) hφ (by omega) (by omega) kend) (fun t19 => ?_)
    refine nw_ts1 (tgt := 1335) C 19 dL_law_40 t19 (by decide) rfl (by decide) (lc_warden C hl hX hbl hbA h1 h2 h3 (g_warden σ τ _ _ _ hI) hφ (by omega) (by omega) kend) (fun t20 => ?_)
    refine nw_ts1 (tgt := 1415) C 20 dL_law_40 t20 (by decide) rfl (by decide) (lc_deed C hl hX hbl hbA h1 h2 h3 h4 h5 h6 (g_deed σ τ _ _ _ _ _ _ hI) hφ (by omega) (by omega) kend) (fun t21 => ?_)
    refine nw_ts1 (tgt := 1533) C 21 dL_law_40 t21 (by decide) rfl (by decide) (lc_barred C hl hX hbl hbA h1 (g_barred σ τ _ hI) hφ (by omega) (by omega) kend) (fun t22 => ?_)
    refine nw_ts1 (tgt := 1596) C 22 dL_law_40 t22 (by decide) rfl (by decide) (lc_why C hl hX hbl hbA h1 (g_why σ τ _ hI) hφ (by omega) (by omega) kend) (fun t23 => ?_)
    refine nw_ts1 (tgt := 1652) C 23 dL_law_40 t23 (by decide) rfl (by decide) (lc_fine C hl hX hbl hbA h1 (g_fine σ τ _ hI) hφ (by omega) (by omega) kend) (fun t24 => ?_)
    refine nw_ts1 (tgt := 1708) C 24 dL_law_40 t24 (by decide) rfl (by decide) (lc_present C hl hX hbl hbA h1 h2 h3 h4 (g_present σ τ _ _ _ _ hI) hφ (by omega) (by omega) kend) (fun t25 => ?_)
    refine nw_ts1 (tgt := 1800) C 25 dL_law_40 t25 (by decide) rfl (by decide) (lc_proof C hl hX hbl hbA h1 h2 (g_proof σ τ _ _ hI) hφ (by omega) (by omega) kend) (fun t26 => ?_)
    refine nw_ts1 (tgt := 1868) C 26 dL_law_40 t26 (by decide) rfl (by decide) (lc_of C hl hX hbl hbA h1 h2 (g_of σ τ _ _ hI) hφ (by omega) (by omega) kend) (fun t27 => ?_)
    refine nw_ts1 (tgt := 1936) C 27 dL_law_40 t27 (by decide) rfl (by decide) (lc_claim C hl hX hbl hbA h1 h2 h3 h4 (g_claim σ τ _ _ _ _ hI) hφ (by omega) (by omega) kend) (fun t28 => ?_)
    refine nw_ts1 (tgt := 2028) C 28 dL_law_40 t28 (by decide) rfl (by decide) (lc_use C hl hX hbl hbA h1 h2 h3 (g_use σ τ _ _ _ hI) hφ (by omega) (by omega) kend) (fun t29 => ?_)
    refine nw_ts1 (tgt := 2108) C 29 dL_law_40 t29 (by decide) rfl (by decide) (lc_sure C hl hX hbl hbA h1 h2 (g_sure σ τ _ _ hI) hφ (by omega) (by omega) kend) (fun t30 => ?_)
    refine nw_ts1 (tgt := 2176) C 30 dL_law_40 t30 (by decide) rfl (by decide) (lc_enter C hl hX hbl hbA h1 h2 h3 (g_enter σ τ _ _ _ hI) hφ (by omega) (by omega) kend) (fun t31 => ?_)
    refine nw_ts1 (tgt := 2256) C 31 dL_law_40 t31 (by decide) rfl (by decide) (lc_quarrel C hl hX hbl hbA  (g_quarrel σ τ  hI) hφ (by omega) (by omega) kend) (fun t32 => ?_)
    refine nw_ts1 (tgt := 2269) C 32 dL_law_40 t32 (by decide) rfl (by decide) (lc_joined C hl hX hbl hbA h1 h2 (g_joined σ τ _ _ hI) hφ (by omega) (by omega) kend) (fun t33 => ?_)
    refine nw_ts1 (tgt := 2337) C 33 dL_law_40 t33 (by decide) rfl (by decide) (lc_lodge C hl hX hbl hbA h1 h2 h3 h4 (g_lodge σ τ _ _ _ _ hI) hφ (by omega) (by omega) kend) (fun t34 => ?_)
    refine nw_ts1 (tgt := 2429) C 34 dL_law_40 t34 (by decide) rfl (by decide) (lc_spot C hl hX hbl hbA h1 h2 h3 (g_spot σ τ _ _ _ hI) hφ (by omega) (by omega) kend) (fun t35 => ?_)
    refine nw_ts1 (tgt := 2509) C 35 dL_law_40 t35 (by decide) rfl (by decide) (lc_beats C hl hX hbl hbA  (g_beats σ τ  hI) hφ (by omega) (by omega) kend) (fun t36 => ?_)
    refine nw_ts1 (tgt := 2522) C 36 dL_law_40 t36 (by decide) rfl (by decide) (lc_beat C hl hX hbl hbA h1 (g_beat σ τ _ hI) hφ (by omega) (by omega) kend) (fun t37 => ?_)
    refine nw_ts1 (tgt := 2578) C 37 dL_law_40 t37 (by decide) rfl (by decide) (lc_wood C hl hX hbl hbA h1 h2 h3 (g_wood σ τ _ _ _ hI) hφ (by omega) (by omega) kend) (fun t38 => ?_)
    refine nw_ts1 (tgt := 2658) C 38 dL_law_40 t38 (by decide) rfl (by decide) (lc_take C hl hX hbl hbA h1 h2 h3 h4 (g_take σ τ _ _ _ _ hI) hφ (by omega) (by omega) kend) (fun t39 => ?_)
    refine nw_ts1 (tgt := 2750) C 39 dL_law_40 t39 (by decide) rfl (by decide) (lc_stock C hl hX hbl hbA h1 h2 h3 h4 (g_stock σ τ _ _ _ _ hI) hφ (by omega) (by omega) kend) (fun t40 => ?_)
    refine nw_ts1 (tgt := 2842) C 40 dL_law_40 t40 (by decide) rfl (by decide) (lc_count C hl hX hbl hbA h1 (g_count σ τ _ hI) hφ (by omega) (by omega) kend) (fun t41 => ?_)
    refine nw_tsD (tgt := 2867) C dL_law_40 (by omega) (by decide) ?_
    exact nw_widen (by omega) (by omega) (kend σ τ ta f hI (Nat.le_refl _) hφ)
end
