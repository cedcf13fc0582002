/-! the methods, decompiled: weakest preconditions over the state -/
def wX0_entry (a1 : Int32) (a2 : Int32) (s : St) (Q : (Int32 → St → Prop)) : Prop :=
  (vp_in ((a1 * (24 : Int32)) + a2) 384 ∧ Q (gA s 12 ((a1 * (24 : Int32)) + a2)) s)
def wX0_enter (a1 : Int32) (a2 : Int32) (a3 : Int32) (s : St) (Q : (St → Prop)) : Prop :=
  (vp_in ((a1 * (24 : Int32)) + a2) 384 ∧ Q (stA s 12 ((a1 * (24 : Int32)) + a2) a3))
def wX0_isPaired (a1 : Int32) (a2 : Int32) (s : St) (Q : (Int32 → St → Prop)) : Prop :=
  wX0_entry a1 a2 s (fun r1 s2 => (if r1 < 0 then Q (0 : Int32) s2 else Q (1 : Int32) s2))
def wX0_isTaken (a1 : Int32) (a2 : Int32) (s : St) (Q : (Int32 → St → Prop)) : Prop :=
  wX0_entry a1 a2 s (fun r1 s2 => (if r1 = (-4 : Int32) then Q (0 : Int32) s2 else Q (1 : Int32) s2))
def wX0_join (a1 : Int32) (a2 : Int32) (a3 : Int32) (s : St) (Q : (St → Prop)) : Prop :=
  wX0_enter a1 a3 a2 s (fun s2 => wX0_enter a2 a3 a1 s2 (fun s4 => Q s4))
def wX0_separate (a1 : Int32) (a2 : Int32) (a3 : Int32) (s : St) (Q : (St → Prop)) : Prop :=
  wX0_enter a1 a3 (-4 : Int32) s (fun s2 => wX0_enter a2 a3 (-4 : Int32) s2 (fun s4 => Q s4))
def wX0_sitOut (a1 : Int32) (a2 : Int32) (s : St) (Q : (St → Prop)) : Prop :=
  wX0_enter a1 a2 (-5 : Int32) s (fun s2 => Q s2)
def wX0_separateAll_4_b   (P4 : Int32 → Int32 → Int32 → St → Prop) (a1 : Int32) (a2 : Int32) (a3 : Int32) (s : St) (Q : (Int32 → St → Prop)) : Prop :=
  (if (24 : Int32) ≤ a3 then Q a2 s else wX0_isPaired a1 a3 s (fun r1 s2 => (if r1 = 0 then P4 a1 a2 (a3 + (1 : Int32)) s2 else wX0_entry a1 a3 s2 (fun r3 s4 => wX0_separate a1 r3 a3 s4 (fun s6 => P4 a1 (a2 + (1 : Int32)) (a3 + (1 : Int32)) s6)))))
def wX0_separateAll_4   (a1 : Int32) (a2 : Int32) (a3 : Int32) (s : St) (Q : (Int32 → St → Prop)) : Prop := ∀ P : Int32 → Int32 → Int32 → St → Prop, (∀ (a1 : Int32) (a2 : Int32) (a3 : Int32) (s : St), wX0_separateAll_4_b   P a1 a2 a3 s Q → P a1 a2 a3 s) → P a1 a2 a3 s
def wX0_separateAll (a1 : Int32) (s : St) (Q : (Int32 → St → Prop)) : Prop :=
  wX0_separateAll_4   a1 (0 : Int32) (0 : Int32) s Q
def wX7_toInt (a0 : Int32) (s : St) (Q : (Int32 → St → Prop)) : Prop :=
  (if a0 = 0 then Q (0 : Int32) s else Q (1 : Int32) s)
def wX0_together_29  (P5 : Int32 → Int32 → Int32 → Int32 → St → Prop) (a1 : Int32) (a2 : Int32) (a4 : Int32) (t0 : Int32) (t1 : Int32) (s : St) (Q : (Int32 → St → Prop)) : Prop :=
  wX7_toInt t0 s (fun r3 s4 => P5 a1 a2 (t1 + r3) (a4 + (1 : Int32)) s4)
def wX0_together_5_b   (P5 : Int32 → Int32 → Int32 → Int32 → St → Prop) (a1 : Int32) (a2 : Int32) (a3 : Int32) (a4 : Int32) (s : St) (Q : (Int32 → St → Prop)) : Prop :=
  (if (24 : Int32) ≤ a4 then Q a3 s else wX0_entry a1 a4 s (fun r1 s2 => (if r1 = a2 then wX0_together_29  P5 a1 a2 a4 (1 : Int32) a3 s2 Q else wX0_together_29  P5 a1 a2 a4 (0 : Int32) a3 s2 Q)))
def wX0_together_5   (a1 : Int32) (a2 : Int32) (a3 : Int32) (a4 : Int32) (s : St) (Q : (Int32 → St → Prop)) : Prop := ∀ P : Int32 → Int32 → Int32 → Int32 → St → Prop, (∀ (a1 : Int32) (a2 : Int32) (a3 : Int32) (a4 : Int32) (s : St), wX0_together_5_b   P a1 a2 a3 a4 s Q → P a1 a2 a3 a4 s) → P a1 a2 a3 a4 s
def wX0_together (a1 : Int32) (a2 : Int32) (s : St) (Q : (Int32 → St → Prop)) : Prop :=
  wX0_together_5   a1 a2 (0 : Int32) (0 : Int32) s Q
def wX0_pairedDances_4_b   (P4 : Int32 → Int32 → Int32 → St → Prop) (a1 : Int32) (a2 : Int32) (a3 : Int32) (s : St) (Q : (Int32 → St → Prop)) : Prop :=
  (if (24 : Int32) ≤ a3 then Q a2 s else wX0_isPaired a1 a3 s (fun r1 s2 => wX7_toInt r1 s2 (fun r3 s4 => P4 a1 (a2 + r3) (a3 + (1 : Int32)) s4)))
def wX0_pairedDances_4   (a1 : Int32) (a2 : Int32) (a3 : Int32) (s : St) (Q : (Int32 → St → Prop)) : Prop := ∀ P : Int32 → Int32 → Int32 → St → Prop, (∀ (a1 : Int32) (a2 : Int32) (a3 : Int32) (s : St), wX0_pairedDances_4_b   P a1 a2 a3 s Q → P a1 a2 a3 s) → P a1 a2 a3 s
def wX0_pairedDances (a1 : Int32) (s : St) (Q : (Int32 → St → Prop)) : Prop :=
  wX0_pairedDances_4   a1 (0 : Int32) (0 : Int32) s Q
def wJ6_bitCount_0f7a4 (a0 : Int32) (s : St) (Q : (Int32 → St → Prop)) : Prop :=
  Q ((((((((a0 - (((a0).toUInt32 >>> (((1 : Int32)).toUInt32 &&& Int32.toUInt32 31)).toInt32 &&& (1431655765 : Int32))) &&& (858993459 : Int32)) + ((((a0 - (((a0).toUInt32 >>> (((1 : Int32)).toUInt32 &&& Int32.toUInt32 31)).toInt32 &&& (1431655765 : Int32)))).toUInt32 >>> (((2 : Int32)).toUInt32 &&& Int32.toUInt32 31)).toInt32 &&& (858993459 : Int32))) + (((((a0 - (((a0).toUInt32 >>> (((1 : Int32)).toUInt32 &&& Int32.toUInt32 31)).toInt32 &&& (1431655765 : Int32))) &&& (858993459 : Int32)) + ((((a0 - (((a0).toUInt32 >>> (((1 : Int32)).toUInt32 &&& Int32.toUInt32 31)).toInt32 &&& (1431655765 : Int32)))).toUInt32 >>> (((2 : Int32)).toUInt32 &&& Int32.toUInt32 31)).toInt32 &&& (858993459 : Int32)))).toUInt32 >>> (((4 : Int32)).toUInt32 &&& Int32.toUInt32 31)).toInt32) &&& (252645135 : Int32)) + (((((((a0 - (((a0).toUInt32 >>> (((1 : Int32)).toUInt32 &&& Int32.toUInt32 31)).toInt32 &&& (1431655765 : Int32))) &&& (858993459 : Int32)) + ((((a0 - (((a0).toUInt32 >>> (((1 : Int32)).toUInt32 &&& Int32.toUInt32 31)).toInt32 &&& (1431655765 : Int32)))).toUInt32 >>> (((2 : Int32)).toUInt32 &&& Int32.toUInt32 31)).toInt32 &&& (858993459 : Int32))) + (((((a0 - (((a0).toUInt32 >>> (((1 : Int32)).toUInt32 &&& Int32.toUInt32 31)).toInt32 &&& (1431655765 : Int32))) &&& (858993459 : Int32)) + ((((a0 - (((a0).toUInt32 >>> (((1 : Int32)).toUInt32 &&& Int32.toUInt32 31)).toInt32 &&& (1431655765 : Int32)))).toUInt32 >>> (((2 : Int32)).toUInt32 &&& Int32.toUInt32 31)).toInt32 &&& (858993459 : Int32)))).toUInt32 >>> (((4 : Int32)).toUInt32 &&& Int32.toUInt32 31)).toInt32) &&& (252645135 : Int32))).toUInt32 >>> (((8 : Int32)).toUInt32 &&& Int32.toUInt32 31)).toInt32) + ((((((((a0 - (((a0).toUInt32 >>> (((1 : Int32)).toUInt32 &&& Int32.toUInt32 31)).toInt32 &&& (1431655765 : Int32))) &&& (858993459 : Int32)) + ((((a0 - (((a0).toUInt32 >>> (((1 : Int32)).toUInt32 &&& Int32.toUInt32 31)).toInt32 &&& (1431655765 : Int32)))).toUInt32 >>> (((2 : Int32)).toUInt32 &&& Int32.toUInt32 31)).toInt32 &&& (858993459 : Int32))) + (((((a0 - (((a0).toUInt32 >>> (((1 : Int32)).toUInt32 &&& Int32.toUInt32 31)).toInt32 &&& (1431655765 : Int32))) &&& (858993459 : Int32)) + ((((a0 - (((a0).toUInt32 >>> (((1 : Int32)).toUInt32 &&& Int32.toUInt32 31)).toInt32 &&& (1431655765 : Int32)))).toUInt32 >>> (((2 : Int32)).toUInt32 &&& Int32.toUInt32 31)).toInt32 &&& (858993459 : Int32)))).toUInt32 >>> (((4 : Int32)).toUInt32 &&& Int32.toUInt32 31)).toInt32) &&& (252645135 : Int32)) + (((((((a0 - (((a0).toUInt32 >>> (((1 : Int32)).toUInt32 &&& Int32.toUInt32 31)).toInt32 &&& (1431655765 : Int32))) &&& (858993459 : Int32)) + ((((a0 - (((a0).toUInt32 >>> (((1 : Int32)).toUInt32 &&& Int32.toUInt32 31)).toInt32 &&& (1431655765 : Int32)))).toUInt32 >>> (((2 : Int32)).toUInt32 &&& Int32.toUInt32 31)).toInt32 &&& (858993459 : Int32))) + (((((a0 - (((a0).toUInt32 >>> (((1 : Int32)).toUInt32 &&& Int32.toUInt32 31)).toInt32 &&& (1431655765 : Int32))) &&& (858993459 : Int32)) + ((((a0 - (((a0).toUInt32 >>> (((1 : Int32)).toUInt32 &&& Int32.toUInt32 31)).toInt32 &&& (1431655765 : Int32)))).toUInt32 >>> (((2 : Int32)).toUInt32 &&& Int32.toUInt32 31)).toInt32 &&& (858993459 : Int32)))).toUInt32 >>> (((4 : Int32)).toUInt32 &&& Int32.toUInt32 31)).toInt32) &&& (252645135 : Int32))).toUInt32 >>> (((8 : Int32)).toUInt32 &&& Int32.toUInt32 31)).toInt32)).toUInt32 >>> (((16 : Int32)).toUInt32 &&& Int32.toUInt32 31)).toInt32) &&& (63 : Int32)) s
def wX0_others_4_b   (P4 : Int32 → Int32 → Int32 → St → Prop) (a1 : Int32) (a2 : Int32) (a3 : Int32) (s : St) (Q : (Int32 → St → Prop)) : Prop :=
  (if (24 : Int32) ≤ a3 then wJ6_bitCount_0f7a4 a2 s (fun r1 s2 => Q r1 s2) else wX0_isPaired a1 a3 s (fun r3 s4 => (if r3 = 0 then P4 a1 a2 (a3 + (1 : Int32)) s4 else wX0_entry a1 a3 s4 (fun r5 s6 => P4 a1 (a2 ||| ((1 : Int32) <<< (r5 &&& 31))) (a3 + (1 : Int32)) s6))))
def wX0_others_4   (a1 : Int32) (a2 : Int32) (a3 : Int32) (s : St) (Q : (Int32 → St → Prop)) : Prop := ∀ P : Int32 → Int32 → Int32 → St → Prop, (∀ (a1 : Int32) (a2 : Int32) (a3 : Int32) (s : St), wX0_others_4_b   P a1 a2 a3 s Q → P a1 a2 a3 s) → P a1 a2 a3 s
def wX0_others (a1 : Int32) (s : St) (Q : (Int32 → St → Prop)) : Prop :=
  wX0_others_4   a1 (0 : Int32) (0 : Int32) s Q
def wX0_longestRow_31  (P7 : Int32 → Int32 → Int32 → Int32 → St → Prop) (a1 : Int32) (a2 : Int32) (a4 : Int32) (t0 : Int32) (s : St) (Q : (Int32 → St → Prop)) : Prop :=
  P7 a1 (if a2 < t0 then t0 else a2) t0 (a4 + (1 : Int32)) s
def wX0_longestRow_7_b   (P7 : Int32 → Int32 → Int32 → Int32 → St → Prop) (a1 : Int32) (a2 : Int32) (a3 : Int32) (a4 : Int32) (s : St) (Q : (Int32 → St → Prop)) : Prop :=
  (if (24 : Int32) ≤ a4 then Q a2 s else wX0_isPaired a1 a4 s (fun r1 s2 => (if r1 = 0 then wX0_longestRow_31  P7 a1 a2 a4 (0 : Int32) s2 Q else wX0_longestRow_31  P7 a1 a2 a4 (a3 + (1 : Int32)) s2 Q)))
def wX0_longestRow_7   (a1 : Int32) (a2 : Int32) (a3 : Int32) (a4 : Int32) (s : St) (Q : (Int32 → St → Prop)) : Prop := ∀ P : Int32 → Int32 → Int32 → Int32 → St → Prop, (∀ (a1 : Int32) (a2 : Int32) (a3 : Int32) (a4 : Int32) (s : St), wX0_longestRow_7_b   P a1 a2 a3 a4 s Q → P a1 a2 a3 a4 s) → P a1 a2 a3 a4 s
def wX0_longestRow (a1 : Int32) (s : St) (Q : (Int32 → St → Prop)) : Prop :=
  wX0_longestRow_7   a1 (0 : Int32) (0 : Int32) (0 : Int32) s Q
def wX0_sittings_27  (P4 : Int32 → Int32 → Int32 → St → Prop) (a1 : Int32) (a3 : Int32) (t0 : Int32) (t1 : Int32) (s : St) (Q : (Int32 → St → Prop)) : Prop :=
  wX7_toInt t0 s (fun r3 s4 => P4 a1 (t1 + r3) (a3 + (1 : Int32)) s4)
def wX0_sittings_4_b   (P4 : Int32 → Int32 → Int32 → St → Prop) (a1 : Int32) (a2 : Int32) (a3 : Int32) (s : St) (Q : (Int32 → St → Prop)) : Prop :=
  (if (24 : Int32) ≤ a3 then Q a2 s else wX0_entry a1 a3 s (fun r1 s2 => (if r1 = (-5 : Int32) then wX0_sittings_27  P4 a1 a3 (1 : Int32) a2 s2 Q else wX0_sittings_27  P4 a1 a3 (0 : Int32) a2 s2 Q)))
def wX0_sittings_4   (a1 : Int32) (a2 : Int32) (a3 : Int32) (s : St) (Q : (Int32 → St → Prop)) : Prop := ∀ P : Int32 → Int32 → Int32 → St → Prop, (∀ (a1 : Int32) (a2 : Int32) (a3 : Int32) (s : St), wX0_sittings_4_b   P a1 a2 a3 s Q → P a1 a2 a3 s) → P a1 a2 a3 s
def wX0_sittings (a1 : Int32) (s : St) (Q : (Int32 → St → Prop)) : Prop :=
  wX0_sittings_4   a1 (0 : Int32) (0 : Int32) s Q
def wX0_rowThrough_26_b   (P26 : Int32 → Int32 → Int32 → St → Prop) (a1 : Int32) (a3 : Int32) (a4 : Int32) (s : St) (Q : (Int32 → St → Prop)) : Prop :=
  (if (23 : Int32) ≤ a4 then Q ((a4 - a3) + (1 : Int32)) s else wX0_isPaired a1 (a4 + (1 : Int32)) s (fun r1 s2 => (if r1 = 0 then Q ((a4 - a3) + (1 : Int32)) s2 else P26 a1 a3 (a4 + (1 : Int32)) s2)))
def wX0_rowThrough_26   (a1 : Int32) (a3 : Int32) (a4 : Int32) (s : St) (Q : (Int32 → St → Prop)) : Prop := ∀ P : Int32 → Int32 → Int32 → St → Prop, (∀ (a1 : Int32) (a3 : Int32) (a4 : Int32) (s : St), wX0_rowThrough_26_b   P a1 a3 a4 s Q → P a1 a3 a4 s) → P a1 a3 a4 s
def wX0_rowThrough_2_b   (P2 : Int32 → Int32 → Int32 → St → Prop) (a1 : Int32) (a2 : Int32) (a3 : Int32) (s : St) (Q : (Int32 → St → Prop)) : Prop :=
  (if a3 ≤ 0 then wX0_rowThrough_26   a1 a3 a2 s Q else wX0_isPaired a1 (a3 - (1 : Int32)) s (fun r3 s4 => (if r3 = 0 then wX0_rowThrough_26   a1 a3 a2 s4 Q else P2 a1 a2 (a3 + (-1 : Int32)) s4)))
def wX0_rowThrough_2   (a1 : Int32) (a2 : Int32) (a3 : Int32) (s : St) (Q : (Int32 → St → Prop)) : Prop := ∀ P : Int32 → Int32 → Int32 → St → Prop, (∀ (a1 : Int32) (a2 : Int32) (a3 : Int32) (s : St), wX0_rowThrough_2_b   P a1 a2 a3 s Q → P a1 a2 a3 s) → P a1 a2 a3 s
def wX0_rowThrough (a1 : Int32) (a2 : Int32) (s : St) (Q : (Int32 → St → Prop)) : Prop :=
  wX0_rowThrough_2   a1 a2 a2 s Q
def wX0_couples_4_b   (P4 : Int32 → Int32 → St → Prop) (a1 : Int32) (a2 : Int32) (s : St) (Q : (Int32 → St → Prop)) : Prop :=
  (if (16 : Int32) ≤ a2 then (¬ (2 : Int32) = 0 ∧ Q (a1 / (2 : Int32)) s) else wX0_pairedDances a2 s (fun r1 s2 => P4 (a1 + r1) (a2 + (1 : Int32)) s2))
def wX0_couples_4   (a1 : Int32) (a2 : Int32) (s : St) (Q : (Int32 → St → Prop)) : Prop := ∀ P : Int32 → Int32 → St → Prop, (∀ (a1 : Int32) (a2 : Int32) (s : St), wX0_couples_4_b   P a1 a2 s Q → P a1 a2 s) → P a1 a2 s
def wX0_couples  (s : St) (Q : (Int32 → St → Prop)) : Prop :=
  wX0_couples_4   (0 : Int32) (0 : Int32) s Q
def wX1_forget  (s : St) (Q : (St → Prop)) : Prop :=
  Q (stF s 2400 (0 : Int32))
def wX1_addCouple (a1 : Int32) (a2 : Int32) (s : St) (Q : (St → Prop)) : Prop :=
  (if (gF s 2400) < (8 : Int32) then (vp_in (gF s 2400) 8 ∧ (vp_in (gF (stA s 25 (gF s 2400) a1) 2400) 8 ∧ Q (stF (stA (stA s 25 (gF s 2400) a1) 26 (gF (stA s 25 (gF s 2400) a1) 2400) a2) 2400 ((gF (stA (stA s 25 (gF s 2400) a1) 26 (gF (stA s 25 (gF s 2400) a1) 2400) a2) 2400) + (1 : Int32))))) else Q s)
def wJ7_fill_53178_4_5_b   (P5 : Int32 → Int32 → Int32 → St → Prop) (a1 : Int32) (a2 : Int32) (a3 : Int32) (s : St) (Q : (St → Prop)) : Prop :=
  (if a3 ≤ a2 then Q s else (vp_in a2 16 ∧ P5 a1 (a2 + (1 : Int32)) a3 (stA s 4 a2 a1)))
def wJ7_fill_53178_4_5   (a1 : Int32) (a2 : Int32) (a3 : Int32) (s : St) (Q : (St → Prop)) : Prop := ∀ P : Int32 → Int32 → Int32 → St → Prop, (∀ (a1 : Int32) (a2 : Int32) (a3 : Int32) (s : St), wJ7_fill_53178_4_5_b   P a1 a2 a3 s Q → P a1 a2 a3 s) → P a1 a2 a3 s
def wJ7_fill_53178_4 (a1 : Int32) (s : St) (Q : (St → Prop)) : Prop :=
  wJ7_fill_53178_4_5   a1 (0 : Int32) (16 : Int32) s Q
def wJ7_fill_53178_5_5_b   (P5 : Int32 → Int32 → Int32 → St → Prop) (a1 : Int32) (a2 : Int32) (a3 : Int32) (s : St) (Q : (St → Prop)) : Prop :=
  (if a3 ≤ a2 then Q s else (vp_in a2 16 ∧ P5 a1 (a2 + (1 : Int32)) a3 (stA s 5 a2 a1)))
def wJ7_fill_53178_5_5   (a1 : Int32) (a2 : Int32) (a3 : Int32) (s : St) (Q : (St → Prop)) : Prop := ∀ P : Int32 → Int32 → Int32 → St → Prop, (∀ (a1 : Int32) (a2 : Int32) (a3 : Int32) (s : St), wJ7_fill_53178_5_5_b   P a1 a2 a3 s Q → P a1 a2 a3 s) → P a1 a2 a3 s
def wJ7_fill_53178_5 (a1 : Int32) (s : St) (Q : (St → Prop)) : Prop :=
  wJ7_fill_53178_5_5   a1 (0 : Int32) (16 : Int32) s Q
def wJ7_fill_53178_6_5_b   (P5 : Int32 → Int32 → Int32 → St → Prop) (a1 : Int32) (a2 : Int32) (a3 : Int32) (s : St) (Q : (St → Prop)) : Prop :=
  (if a3 ≤ a2 then Q s else (vp_in a2 16 ∧ P5 a1 (a2 + (1 : Int32)) a3 (stA s 6 a2 a1)))
def wJ7_fill_53178_6_5   (a1 : Int32) (a2 : Int32) (a3 : Int32) (s : St) (Q : (St → Prop)) : Prop := ∀ P : Int32 → Int32 → Int32 → St → Prop, (∀ (a1 : Int32) (a2 : Int32) (a3 : Int32) (s : St), wJ7_fill_53178_6_5_b   P a1 a2 a3 s Q → P a1 a2 a3 s) → P a1 a2 a3 s
def wJ7_fill_53178_6 (a1 : Int32) (s : St) (Q : (St → Prop)) : Prop :=
  wJ7_fill_53178_6_5   a1 (0 : Int32) (16 : Int32) s Q
def wJ7_fill_53178_9_5_b   (P5 : Int32 → Int32 → Int32 → St → Prop) (a1 : Int32) (a2 : Int32) (a3 : Int32) (s : St) (Q : (St → Prop)) : Prop :=
  (if a3 ≤ a2 then Q s else (vp_in a2 4 ∧ P5 a1 (a2 + (1 : Int32)) a3 (stA s 9 a2 a1)))
def wJ7_fill_53178_9_5   (a1 : Int32) (a2 : Int32) (a3 : Int32) (s : St) (Q : (St → Prop)) : Prop := ∀ P : Int32 → Int32 → Int32 → St → Prop, (∀ (a1 : Int32) (a2 : Int32) (a3 : Int32) (s : St), wJ7_fill_53178_9_5_b   P a1 a2 a3 s Q → P a1 a2 a3 s) → P a1 a2 a3 s
def wJ7_fill_53178_9 (a1 : Int32) (s : St) (Q : (St → Prop)) : Prop :=
  wJ7_fill_53178_9_5   a1 (0 : Int32) (4 : Int32) s Q
def wJ7_fill_53178_10_5_b   (P5 : Int32 → Int32 → Int32 → St → Prop) (a1 : Int32) (a2 : Int32) (a3 : Int32) (s : St) (Q : (St → Prop)) : Prop :=
  (if a3 ≤ a2 then Q s else (vp_in a2 4 ∧ P5 a1 (a2 + (1 : Int32)) a3 (stA s 10 a2 a1)))
def wJ7_fill_53178_10_5   (a1 : Int32) (a2 : Int32) (a3 : Int32) (s : St) (Q : (St → Prop)) : Prop := ∀ P : Int32 → Int32 → Int32 → St → Prop, (∀ (a1 : Int32) (a2 : Int32) (a3 : Int32) (s : St), wJ7_fill_53178_10_5_b   P a1 a2 a3 s Q → P a1 a2 a3 s) → P a1 a2 a3 s
def wJ7_fill_53178_10 (a1 : Int32) (s : St) (Q : (St → Prop)) : Prop :=
  wJ7_fill_53178_10_5   a1 (0 : Int32) (4 : Int32) s Q
def wJ7_fill_53178_12_5_b   (P5 : Int32 → Int32 → Int32 → St → Prop) (a1 : Int32) (a2 : Int32) (a3 : Int32) (s : St) (Q : (St → Prop)) : Prop :=
  (if a3 ≤ a2 then Q s else (vp_in a2 384 ∧ P5 a1 (a2 + (1 : Int32)) a3 (stA s 12 a2 a1)))
def wJ7_fill_53178_12_5   (a1 : Int32) (a2 : Int32) (a3 : Int32) (s : St) (Q : (St → Prop)) : Prop := ∀ P : Int32 → Int32 → Int32 → St → Prop, (∀ (a1 : Int32) (a2 : Int32) (a3 : Int32) (s : St), wJ7_fill_53178_12_5_b   P a1 a2 a3 s Q → P a1 a2 a3 s) → P a1 a2 a3 s
def wJ7_fill_53178_12 (a1 : Int32) (s : St) (Q : (St → Prop)) : Prop :=
  wJ7_fill_53178_12_5   a1 (0 : Int32) (384 : Int32) s Q
def wJ7_fill_53178_14_5_b   (P5 : Int32 → Int32 → Int32 → St → Prop) (a1 : Int32) (a2 : Int32) (a3 : Int32) (s : St) (Q : (St → Prop)) : Prop :=
  (if a3 ≤ a2 then Q s else (vp_in a2 16 ∧ P5 a1 (a2 + (1 : Int32)) a3 (stA s 14 a2 a1)))
def wJ7_fill_53178_14_5   (a1 : Int32) (a2 : Int32) (a3 : Int32) (s : St) (Q : (St → Prop)) : Prop := ∀ P : Int32 → Int32 → Int32 → St → Prop, (∀ (a1 : Int32) (a2 : Int32) (a3 : Int32) (s : St), wJ7_fill_53178_14_5_b   P a1 a2 a3 s Q → P a1 a2 a3 s) → P a1 a2 a3 s
def wJ7_fill_53178_14 (a1 : Int32) (s : St) (Q : (St → Prop)) : Prop :=
  wJ7_fill_53178_14_5   a1 (0 : Int32) (16 : Int32) s Q
def wJ7_fill_53178_15_5_b   (P5 : Int32 → Int32 → Int32 → St → Prop) (a1 : Int32) (a2 : Int32) (a3 : Int32) (s : St) (Q : (St → Prop)) : Prop :=
  (if a3 ≤ a2 then Q s else (vp_in a2 16 ∧ P5 a1 (a2 + (1 : Int32)) a3 (stA s 15 a2 a1)))
def wJ7_fill_53178_15_5   (a1 : Int32) (a2 : Int32) (a3 : Int32) (s : St) (Q : (St → Prop)) : Prop := ∀ P : Int32 → Int32 → Int32 → St → Prop, (∀ (a1 : Int32) (a2 : Int32) (a3 : Int32) (s : St), wJ7_fill_53178_15_5_b   P a1 a2 a3 s Q → P a1 a2 a3 s) → P a1 a2 a3 s
def wJ7_fill_53178_15 (a1 : Int32) (s : St) (Q : (St → Prop)) : Prop :=
  wJ7_fill_53178_15_5   a1 (0 : Int32) (16 : Int32) s Q
def wJ7_fill_53178_16_5_b   (P5 : Int32 → Int32 → Int32 → St → Prop) (a1 : Int32) (a2 : Int32) (a3 : Int32) (s : St) (Q : (St → Prop)) : Prop :=
  (if a3 ≤ a2 then Q s else (vp_in a2 16 ∧ P5 a1 (a2 + (1 : Int32)) a3 (stA s 16 a2 a1)))
def wJ7_fill_53178_16_5   (a1 : Int32) (a2 : Int32) (a3 : Int32) (s : St) (Q : (St → Prop)) : Prop := ∀ P : Int32 → Int32 → Int32 → St → Prop, (∀ (a1 : Int32) (a2 : Int32) (a3 : Int32) (s : St), wJ7_fill_53178_16_5_b   P a1 a2 a3 s Q → P a1 a2 a3 s) → P a1 a2 a3 s
def wJ7_fill_53178_16 (a1 : Int32) (s : St) (Q : (St → Prop)) : Prop :=
  wJ7_fill_53178_16_5   a1 (0 : Int32) (16 : Int32) s Q
def wJ7_fill_53178_18_5_b   (P5 : Int32 → Int32 → Int32 → St → Prop) (a1 : Int32) (a2 : Int32) (a3 : Int32) (s : St) (Q : (St → Prop)) : Prop :=
  (if a3 ≤ a2 then Q s else (vp_in a2 4 ∧ P5 a1 (a2 + (1 : Int32)) a3 (stA s 18 a2 a1)))
def wJ7_fill_53178_18_5   (a1 : Int32) (a2 : Int32) (a3 : Int32) (s : St) (Q : (St → Prop)) : Prop := ∀ P : Int32 → Int32 → Int32 → St → Prop, (∀ (a1 : Int32) (a2 : Int32) (a3 : Int32) (s : St), wJ7_fill_53178_18_5_b   P a1 a2 a3 s Q → P a1 a2 a3 s) → P a1 a2 a3 s
def wJ7_fill_53178_18 (a1 : Int32) (s : St) (Q : (St → Prop)) : Prop :=
  wJ7_fill_53178_18_5   a1 (0 : Int32) (4 : Int32) s Q
def wJ7_fill_53178_19_5_b   (P5 : Int32 → Int32 → Int32 → St → Prop) (a1 : Int32) (a2 : Int32) (a3 : Int32) (s : St) (Q : (St → Prop)) : Prop :=
  (if a3 ≤ a2 then Q s else (vp_in a2 4 ∧ P5 a1 (a2 + (1 : Int32)) a3 (stA s 19 a2 a1)))
def wJ7_fill_53178_19_5   (a1 : Int32) (a2 : Int32) (a3 : Int32) (s : St) (Q : (St → Prop)) : Prop := ∀ P : Int32 → Int32 → Int32 → St → Prop, (∀ (a1 : Int32) (a2 : Int32) (a3 : Int32) (s : St), wJ7_fill_53178_19_5_b   P a1 a2 a3 s Q → P a1 a2 a3 s) → P a1 a2 a3 s
def wJ7_fill_53178_19 (a1 : Int32) (s : St) (Q : (St → Prop)) : Prop :=
  wJ7_fill_53178_19_5   a1 (0 : Int32) (4 : Int32) s Q
def wJ7_fill_53178_20_5_b   (P5 : Int32 → Int32 → Int32 → St → Prop) (a1 : Int32) (a2 : Int32) (a3 : Int32) (s : St) (Q : (St → Prop)) : Prop :=
  (if a3 ≤ a2 then Q s else (vp_in a2 240 ∧ P5 a1 (a2 + (1 : Int32)) a3 (stA s 20 a2 a1)))
def wJ7_fill_53178_20_5   (a1 : Int32) (a2 : Int32) (a3 : Int32) (s : St) (Q : (St → Prop)) : Prop := ∀ P : Int32 → Int32 → Int32 → St → Prop, (∀ (a1 : Int32) (a2 : Int32) (a3 : Int32) (s : St), wJ7_fill_53178_20_5_b   P a1 a2 a3 s Q → P a1 a2 a3 s) → P a1 a2 a3 s
def wJ7_fill_53178_20 (a1 : Int32) (s : St) (Q : (St → Prop)) : Prop :=
  wJ7_fill_53178_20_5   a1 (0 : Int32) (240 : Int32) s Q
def wJ7_fill_53178_22_5_b   (P5 : Int32 → Int32 → Int32 → St → Prop) (a1 : Int32) (a2 : Int32) (a3 : Int32) (s : St) (Q : (St → Prop)) : Prop :=
  (if a3 ≤ a2 then Q s else (vp_in a2 256 ∧ P5 a1 (a2 + (1 : Int32)) a3 (stA s 22 a2 a1)))
def wJ7_fill_53178_22_5   (a1 : Int32) (a2 : Int32) (a3 : Int32) (s : St) (Q : (St → Prop)) : Prop := ∀ P : Int32 → Int32 → Int32 → St → Prop, (∀ (a1 : Int32) (a2 : Int32) (a3 : Int32) (s : St), wJ7_fill_53178_22_5_b   P a1 a2 a3 s Q → P a1 a2 a3 s) → P a1 a2 a3 s
def wJ7_fill_53178_22 (a1 : Int32) (s : St) (Q : (St → Prop)) : Prop :=
  wJ7_fill_53178_22_5   a1 (0 : Int32) (256 : Int32) s Q
def wJ7_fill_53178_23_5_b   (P5 : Int32 → Int32 → Int32 → St → Prop) (a1 : Int32) (a2 : Int32) (a3 : Int32) (s : St) (Q : (St → Prop)) : Prop :=
  (if a3 ≤ a2 then Q s else (vp_in a2 1024 ∧ P5 a1 (a2 + (1 : Int32)) a3 (stA s 23 a2 a1)))
def wJ7_fill_53178_23_5   (a1 : Int32) (a2 : Int32) (a3 : Int32) (s : St) (Q : (St → Prop)) : Prop := ∀ P : Int32 → Int32 → Int32 → St → Prop, (∀ (a1 : Int32) (a2 : Int32) (a3 : Int32) (s : St), wJ7_fill_53178_23_5_b   P a1 a2 a3 s Q → P a1 a2 a3 s) → P a1 a2 a3 s
def wJ7_fill_53178_23 (a1 : Int32) (s : St) (Q : (St → Prop)) : Prop :=
  wJ7_fill_53178_23_5   a1 (0 : Int32) (1024 : Int32) s Q
def wJ7_fill_53178_25_5_b   (P5 : Int32 → Int32 → Int32 → St → Prop) (a1 : Int32) (a2 : Int32) (a3 : Int32) (s : St) (Q : (St → Prop)) : Prop :=
  (if a3 ≤ a2 then Q s else (vp_in a2 8 ∧ P5 a1 (a2 + (1 : Int32)) a3 (stA s 25 a2 a1)))
def wJ7_fill_53178_25_5   (a1 : Int32) (a2 : Int32) (a3 : Int32) (s : St) (Q : (St → Prop)) : Prop := ∀ P : Int32 → Int32 → Int32 → St → Prop, (∀ (a1 : Int32) (a2 : Int32) (a3 : Int32) (s : St), wJ7_fill_53178_25_5_b   P a1 a2 a3 s Q → P a1 a2 a3 s) → P a1 a2 a3 s
def wJ7_fill_53178_25 (a1 : Int32) (s : St) (Q : (St → Prop)) : Prop :=
  wJ7_fill_53178_25_5   a1 (0 : Int32) (8 : Int32) s Q
def wJ7_fill_53178_26_5_b   (P5 : Int32 → Int32 → Int32 → St → Prop) (a1 : Int32) (a2 : Int32) (a3 : Int32) (s : St) (Q : (St → Prop)) : Prop :=
  (if a3 ≤ a2 then Q s else (vp_in a2 8 ∧ P5 a1 (a2 + (1 : Int32)) a3 (stA s 26 a2 a1)))
def wJ7_fill_53178_26_5   (a1 : Int32) (a2 : Int32) (a3 : Int32) (s : St) (Q : (St → Prop)) : Prop := ∀ P : Int32 → Int32 → Int32 → St → Prop, (∀ (a1 : Int32) (a2 : Int32) (a3 : Int32) (s : St), wJ7_fill_53178_26_5_b   P a1 a2 a3 s Q → P a1 a2 a3 s) → P a1 a2 a3 s
def wJ7_fill_53178_26 (a1 : Int32) (s : St) (Q : (St → Prop)) : Prop :=
  wJ7_fill_53178_26_5   a1 (0 : Int32) (8 : Int32) s Q
def wJ7_fill_53178_27_5_b   (P5 : Int32 → Int32 → Int32 → St → Prop) (a1 : Int32) (a2 : Int32) (a3 : Int32) (s : St) (Q : (St → Prop)) : Prop :=
  (if a3 ≤ a2 then Q s else (vp_in a2 8 ∧ P5 a1 (a2 + (1 : Int32)) a3 (stA s 27 a2 a1)))
def wJ7_fill_53178_27_5   (a1 : Int32) (a2 : Int32) (a3 : Int32) (s : St) (Q : (St → Prop)) : Prop := ∀ P : Int32 → Int32 → Int32 → St → Prop, (∀ (a1 : Int32) (a2 : Int32) (a3 : Int32) (s : St), wJ7_fill_53178_27_5_b   P a1 a2 a3 s Q → P a1 a2 a3 s) → P a1 a2 a3 s
def wJ7_fill_53178_27 (a1 : Int32) (s : St) (Q : (St → Prop)) : Prop :=
  wJ7_fill_53178_27_5   a1 (0 : Int32) (8 : Int32) s Q
def wJ7_fill_53178_28_5_b   (P5 : Int32 → Int32 → Int32 → St → Prop) (a1 : Int32) (a2 : Int32) (a3 : Int32) (s : St) (Q : (St → Prop)) : Prop :=
  (if a3 ≤ a2 then Q s else (vp_in a2 8 ∧ P5 a1 (a2 + (1 : Int32)) a3 (stA s 28 a2 a1)))
def wJ7_fill_53178_28_5   (a1 : Int32) (a2 : Int32) (a3 : Int32) (s : St) (Q : (St → Prop)) : Prop := ∀ P : Int32 → Int32 → Int32 → St → Prop, (∀ (a1 : Int32) (a2 : Int32) (a3 : Int32) (s : St), wJ7_fill_53178_28_5_b   P a1 a2 a3 s Q → P a1 a2 a3 s) → P a1 a2 a3 s
def wJ7_fill_53178_28 (a1 : Int32) (s : St) (Q : (St → Prop)) : Prop :=
  wJ7_fill_53178_28_5   a1 (0 : Int32) (8 : Int32) s Q
def wJ7_fill_53178_29_5_b   (P5 : Int32 → Int32 → Int32 → St → Prop) (a1 : Int32) (a2 : Int32) (a3 : Int32) (s : St) (Q : (St → Prop)) : Prop :=
  (if a3 ≤ a2 then Q s else (vp_in a2 8 ∧ P5 a1 (a2 + (1 : Int32)) a3 (stA s 29 a2 a1)))
def wJ7_fill_53178_29_5   (a1 : Int32) (a2 : Int32) (a3 : Int32) (s : St) (Q : (St → Prop)) : Prop := ∀ P : Int32 → Int32 → Int32 → St → Prop, (∀ (a1 : Int32) (a2 : Int32) (a3 : Int32) (s : St), wJ7_fill_53178_29_5_b   P a1 a2 a3 s Q → P a1 a2 a3 s) → P a1 a2 a3 s
def wJ7_fill_53178_29 (a1 : Int32) (s : St) (Q : (St → Prop)) : Prop :=
  wJ7_fill_53178_29_5   a1 (0 : Int32) (8 : Int32) s Q
def wX1_isOpenFor (a1 : Int32) (a2 : Int32) (s : St) (Q : (Int32 → St → Prop)) : Prop :=
  (vp_in a1 8 ∧ (if (4 : Int32) ≤ (gA s 28 a1) then Q (0 : Int32) s else (vp_in a1 8 ∧ (vp_in a2 8 ∧ (if ((gA s 29 a1) &&& (gA s 26 a2)) = 0 then Q (1 : Int32) s else Q (0 : Int32) s)))))
def wX1_canPlace_12_b (RC : Int32 → Int32 → St → (Int32 → St → Prop) → Prop)  (P12 : Int32 → Int32 → Int32 → St → Prop) (a1 : Int32) (a2 : Int32) (a3 : Int32) (s : St) (Q : (Int32 → St → Prop)) : Prop :=
  (if a2 ≤ a3 then Q (0 : Int32) s else wX1_isOpenFor a3 a1 s (fun r1 s2 => (if r1 = 0 then P12 a1 a2 (a3 + (1 : Int32)) s2 else (vp_in a3 8 ∧ (vp_in a3 8 ∧ (vp_in a3 8 ∧ (vp_in a1 8 ∧ (vp_in a3 8 ∧ (vp_in a1 8 ∧ RC (a1 + (1 : Int32)) a2 (stA (stA (stA s2 28 a3 ((gA s2 28 a3) + (1 : Int32))) 29 a3 ((gA (stA s2 28 a3 ((gA s2 28 a3) + (1 : Int32))) 29 a3) ||| (gA (stA s2 28 a3 ((gA s2 28 a3) + (1 : Int32))) 25 a1))) 27 a1 a3) (fun r3 s4 => (if r3 = 0 then (vp_in a3 8 ∧ (vp_in a3 8 ∧ (vp_in a3 8 ∧ (vp_in a1 8 ∧ (vp_in a3 8 ∧ (vp_in a3 8 ∧ (if (gA (stA (stA s4 28 a3 ((gA s4 28 a3) - (1 : Int32))) 29 a3 ((gA (stA s4 28 a3 ((gA s4 28 a3) - (1 : Int32))) 29 a3) &&& ((gA (stA s4 28 a3 ((gA s4 28 a3) - (1 : Int32))) 25 a1) ^^^ (-1 : Int32)))) 28 a3) = 0 then Q (0 : Int32) (stA (stA s4 28 a3 ((gA s4 28 a3) - (1 : Int32))) 29 a3 ((gA (stA s4 28 a3 ((gA s4 28 a3) - (1 : Int32))) 29 a3) &&& ((gA (stA s4 28 a3 ((gA s4 28 a3) - (1 : Int32))) 25 a1) ^^^ (-1 : Int32)))) else P12 a1 a2 (a3 + (1 : Int32)) (stA (stA s4 28 a3 ((gA s4 28 a3) - (1 : Int32))) 29 a3 ((gA (stA s4 28 a3 ((gA s4 28 a3) - (1 : Int32))) 29 a3) &&& ((gA (stA s4 28 a3 ((gA s4 28 a3) - (1 : Int32))) 25 a1) ^^^ (-1 : Int32))))))))))) else Q (1 : Int32) s4)))))))))))
def wX1_canPlace_12 (RC : Int32 → Int32 → St → (Int32 → St → Prop) → Prop)  (a1 : Int32) (a2 : Int32) (a3 : Int32) (s : St) (Q : (Int32 → St → Prop)) : Prop := ∀ P : Int32 → Int32 → Int32 → St → Prop, (∀ (a1 : Int32) (a2 : Int32) (a3 : Int32) (s : St), wX1_canPlace_12_b RC  P a1 a2 a3 s Q → P a1 a2 a3 s) → P a1 a2 a3 s
def wX1_canPlace_b (RC : Int32 → Int32 → St → (Int32 → St → Prop) → Prop) (a1 : Int32) (a2 : Int32) (s : St) (Q : (Int32 → St → Prop)) : Prop :=
  (if a1 < (gF s 2400) then wX1_canPlace_12 RC  a1 a2 (0 : Int32) s Q else Q (1 : Int32) s)
def wX1_canPlace : Nat → Int32 → Int32 → St → (Int32 → St → Prop) → Prop
  | 0, _, _, _, _ => False
  | n + 1, a1, a2, s, Q => wX1_canPlace_b (wX1_canPlace n) a1 a2 s Q
def wX1_group_45_b   (P45 : Int32 → St → Prop) (a1 : Int32) (s : St) (Q : (Int32 → St → Prop)) : Prop :=
  (if (gF s 2400) ≤ a1 then Q (gF s 2400) s else (vp_in a1 8 ∧ P45 (a1 + (1 : Int32)) (stA s 27 a1 a1)))
def wX1_group_45   (a1 : Int32) (s : St) (Q : (Int32 → St → Prop)) : Prop := ∀ P : Int32 → St → Prop, (∀ (a1 : Int32) (s : St), wX1_group_45_b   P a1 s Q → P a1 s) → P a1 s
def wX1_group_2_b   (P2 : Int32 → St → Prop) (a1 : Int32) (s : St) (Q : (Int32 → St → Prop)) : Prop :=
  (if (gF s 2400) ≤ a1 then wX1_group_45   (0 : Int32) s Q else wJ7_fill_53178_28 (0 : Int32) s (fun s2 => wJ7_fill_53178_29 (0 : Int32) s2 (fun s4 => wX1_canPlace 40 (0 : Int32) a1 s4 (fun r5 s6 => (if r5 = 0 then P2 (a1 + (1 : Int32)) s6 else Q a1 s6)))))
def wX1_group_2   (a1 : Int32) (s : St) (Q : (Int32 → St → Prop)) : Prop := ∀ P : Int32 → St → Prop, (∀ (a1 : Int32) (s : St), wX1_group_2_b   P a1 s Q → P a1 s) → P a1 s
def wX1_group  (s : St) (Q : (Int32 → St → Prop)) : Prop :=
  wX1_group_2   (0 : Int32) s Q
def wX1_groupOf_2_b   (P2 : Int32 → Int32 → St → Prop) (a1 : Int32) (a2 : Int32) (s : St) (Q : (Int32 → St → Prop)) : Prop :=
  (if (gF s 2400) ≤ a2 then Q (-4 : Int32) s else (vp_in a2 8 ∧ (if ((gA s 25 a2) &&& ((1 : Int32) <<< (a1 &&& 31))) = 0 then P2 a1 (a2 + (1 : Int32)) s else (vp_in a2 8 ∧ Q (gA s 27 a2) s))))
def wX1_groupOf_2   (a1 : Int32) (a2 : Int32) (s : St) (Q : (Int32 → St → Prop)) : Prop := ∀ P : Int32 → Int32 → St → Prop, (∀ (a1 : Int32) (a2 : Int32) (s : St), wX1_groupOf_2_b   P a1 a2 s Q → P a1 a2 s) → P a1 a2 s
def wX1_groupOf (a1 : Int32) (s : St) (Q : (Int32 → St → Prop)) : Prop :=
  wX1_groupOf_2   a1 (0 : Int32) s Q
def wX2_welcome (a1 : Int32) (a2 : Int32) (s : St) (Q : (Int32 → St → Prop)) : Prop :=
  (vp_in (gF s 100) 16 ∧ (vp_in (gF (stA s 2 (gF s 100) (vp_nar .boolean a1)) 100) 16 ∧ Q ((gF (stF (stA (stA s 2 (gF s 100) (vp_nar .boolean a1)) 4 (gF (stA s 2 (gF s 100) (vp_nar .boolean a1)) 100) a2) 100 ((gF (stA (stA s 2 (gF s 100) (vp_nar .boolean a1)) 4 (gF (stA s 2 (gF s 100) (vp_nar .boolean a1)) 100) a2) 100) + (1 : Int32))) 100) - (1 : Int32)) (stF (stA (stA s 2 (gF s 100) (vp_nar .boolean a1)) 4 (gF (stA s 2 (gF s 100) (vp_nar .boolean a1)) 100) a2) 100 ((gF (stA (stA s 2 (gF s 100) (vp_nar .boolean a1)) 4 (gF (stA s 2 (gF s 100) (vp_nar .boolean a1)) 100) a2) 100) + (1 : Int32)))))
def wX2_isThere (a1 : Int32) (s : St) (Q : (Int32 → St → Prop)) : Prop :=
  (if a1 < 0 then Q (0 : Int32) s else (if (gF s 100) ≤ a1 then Q (0 : Int32) s else Q (1 : Int32) s))
def wX2_isLady (a1 : Int32) (s : St) (Q : (Int32 → St → Prop)) : Prop :=
  wX2_isThere a1 s (fun r1 s2 => (if r1 = 0 then Q (0 : Int32) s2 else (vp_in a1 16 ∧ (if (gA s2 2 a1) = 0 then Q (0 : Int32) s2 else Q (1 : Int32) s2))))
def wX2_isGentleman (a1 : Int32) (s : St) (Q : (Int32 → St → Prop)) : Prop :=
  wX2_isThere a1 s (fun r1 s2 => (if r1 = 0 then Q (0 : Int32) s2 else (vp_in a1 16 ∧ (if (gA s2 2 a1) = 0 then Q (1 : Int32) s2 else Q (0 : Int32) s2))))
def wX2_isIll (a1 : Int32) (s : St) (Q : (Int32 → St → Prop)) : Prop :=
  (vp_in a1 16 ∧ (narrow .boolean (.int (gA s 3 a1)) = .int (gA s 3 a1) ∧ Q (gA s 3 a1) s))
def wX2_makeIll (a1 : Int32) (a2 : Int32) (s : St) (Q : (St → Prop)) : Prop :=
  (vp_in a1 16 ∧ Q (stA s 3 a1 (vp_nar .boolean a2)))
def wX2_areKnown (a1 : Int32) (a2 : Int32) (s : St) (Q : (Int32 → St → Prop)) : Prop :=
  (vp_in a1 16 ∧ (if ((gA s 5 a1) &&& ((1 : Int32) <<< (a2 &&& 31))) = 0 then Q (0 : Int32) s else Q (1 : Int32) s))
def wX2_makeKnown (a1 : Int32) (a2 : Int32) (s : St) (Q : (St → Prop)) : Prop :=
  (vp_in a1 16 ∧ (vp_in a1 16 ∧ (vp_in a2 16 ∧ (vp_in a2 16 ∧ Q (stA (stA s 5 a1 ((gA s 5 a1) ||| ((1 : Int32) <<< (a2 &&& 31)))) 5 a2 ((gA (stA s 5 a1 ((gA s 5 a1) ||| ((1 : Int32) <<< (a2 &&& 31)))) 5 a2) ||| ((1 : Int32) <<< (a1 &&& 31))))))))
def wX2_areAtFeud (a1 : Int32) (a2 : Int32) (s : St) (Q : (Int32 → St → Prop)) : Prop :=
  (vp_in a1 16 ∧ (if ((gA s 6 a1) &&& ((1 : Int32) <<< (a2 &&& 31))) = 0 then Q (0 : Int32) s else Q (1 : Int32) s))
def wX2_putAtFeud (a1 : Int32) (a2 : Int32) (a3 : Int32) (s : St) (Q : (St → Prop)) : Prop :=
  (vp_in a1 16 ∧ (vp_in a1 16 ∧ (vp_in a2 16 ∧ (vp_in a2 16 ∧ (if a3 = 0 then Q (stA (stA s 6 a1 ((gA s 6 a1) &&& (((1 : Int32) <<< (a2 &&& 31)) ^^^ (-1 : Int32)))) 6 a2 ((gA (stA s 6 a1 ((gA s 6 a1) &&& (((1 : Int32) <<< (a2 &&& 31)) ^^^ (-1 : Int32)))) 6 a2) &&& (((1 : Int32) <<< (a1 &&& 31)) ^^^ (-1 : Int32)))) else (vp_in a1 16 ∧ (vp_in a1 16 ∧ (vp_in a2 16 ∧ (vp_in a2 16 ∧ Q (stA (stA (stA (stA s 6 a1 ((gA s 6 a1) &&& (((1 : Int32) <<< (a2 &&& 31)) ^^^ (-1 : Int32)))) 6 a2 ((gA (stA s 6 a1 ((gA s 6 a1) &&& (((1 : Int32) <<< (a2 &&& 31)) ^^^ (-1 : Int32)))) 6 a2) &&& (((1 : Int32) <<< (a1 &&& 31)) ^^^ (-1 : Int32)))) 6 a1 ((gA (stA (stA s 6 a1 ((gA s 6 a1) &&& (((1 : Int32) <<< (a2 &&& 31)) ^^^ (-1 : Int32)))) 6 a2 ((gA (stA s 6 a1 ((gA s 6 a1) &&& (((1 : Int32) <<< (a2 &&& 31)) ^^^ (-1 : Int32)))) 6 a2) &&& (((1 : Int32) <<< (a1 &&& 31)) ^^^ (-1 : Int32)))) 6 a1) ||| ((1 : Int32) <<< (a2 &&& 31)))) 6 a2 ((gA (stA (stA (stA s 6 a1 ((gA s 6 a1) &&& (((1 : Int32) <<< (a2 &&& 31)) ^^^ (-1 : Int32)))) 6 a2 ((gA (stA s 6 a1 ((gA s 6 a1) &&& (((1 : Int32) <<< (a2 &&& 31)) ^^^ (-1 : Int32)))) 6 a2) &&& (((1 : Int32) <<< (a1 &&& 31)) ^^^ (-1 : Int32)))) 6 a1 ((gA (stA (stA s 6 a1 ((gA s 6 a1) &&& (((1 : Int32) <<< (a2 &&& 31)) ^^^ (-1 : Int32)))) 6 a2 ((gA (stA s 6 a1 ((gA s 6 a1) &&& (((1 : Int32) <<< (a2 &&& 31)) ^^^ (-1 : Int32)))) 6 a2) &&& (((1 : Int32) <<< (a1 &&& 31)) ^^^ (-1 : Int32)))) 6 a1) ||| ((1 : Int32) <<< (a2 &&& 31)))) 6 a2) ||| ((1 : Int32) <<< (a1 &&& 31)))))))))))))
def wX2_rankGap (a1 : Int32) (a2 : Int32) (s : St) (Q : (Int32 → St → Prop)) : Prop :=
  (vp_in a1 16 ∧ (vp_in a2 16 ∧ Q (if 0 ≤ ((gA s 4 a1) - (gA s 4 a2)) then ((gA s 4 a1) - (gA s 4 a2)) else 0 - ((gA s 4 a1) - (gA s 4 a2))) s))
def wX2_bitsOf (a1 : Int32) (a2 : Int32) (s : St) (Q : (Int32 → St → Prop)) : Prop :=
  Q (((1 : Int32) <<< (a1 &&& 31)) ||| ((1 : Int32) <<< (a2 &&& 31))) s
def wX2_foesOf (a1 : Int32) (a2 : Int32) (s : St) (Q : (Int32 → St → Prop)) : Prop :=
  (vp_in a1 16 ∧ (vp_in a2 16 ∧ Q ((gA s 6 a1) ||| (gA s 6 a2)) s))
def wX2_ladies_4_b   (P4 : Int32 → Int32 → St → Prop) (a1 : Int32) (a2 : Int32) (s : St) (Q : (Int32 → St → Prop)) : Prop :=
  (if (gF s 100) ≤ a2 then Q a1 s else (vp_in a2 16 ∧ wX7_toInt (gA s 2 a2) s (fun r1 s2 => P4 (a1 + r1) (a2 + (1 : Int32)) s2)))
def wX2_ladies_4   (a1 : Int32) (a2 : Int32) (s : St) (Q : (Int32 → St → Prop)) : Prop := ∀ P : Int32 → Int32 → St → Prop, (∀ (a1 : Int32) (a2 : Int32) (s : St), wX2_ladies_4_b   P a1 a2 s Q → P a1 a2 s) → P a1 a2 s
def wX2_ladies  (s : St) (Q : (Int32 → St → Prop)) : Prop :=
  wX2_ladies_4   (0 : Int32) (0 : Int32) s Q
def wX2_illOnes_4_b   (P4 : Int32 → Int32 → St → Prop) (a1 : Int32) (a2 : Int32) (s : St) (Q : (Int32 → St → Prop)) : Prop :=
  (if (gF s 100) ≤ a2 then Q a1 s else (vp_in a2 16 ∧ wX7_toInt (gA s 3 a2) s (fun r1 s2 => P4 (a1 + r1) (a2 + (1 : Int32)) s2)))
def wX2_illOnes_4   (a1 : Int32) (a2 : Int32) (s : St) (Q : (Int32 → St → Prop)) : Prop := ∀ P : Int32 → Int32 → St → Prop, (∀ (a1 : Int32) (a2 : Int32) (s : St), wX2_illOnes_4_b   P a1 a2 s Q → P a1 a2 s) → P a1 a2 s
def wX2_illOnes  (s : St) (Q : (Int32 → St → Prop)) : Prop :=
  wX2_illOnes_4   (0 : Int32) (0 : Int32) s Q
def wX2_knownPairs_4_b   (P4 : Int32 → Int32 → St → Prop) (a1 : Int32) (a2 : Int32) (s : St) (Q : (Int32 → St → Prop)) : Prop :=
  (if (gF s 100) ≤ a2 then (¬ (2 : Int32) = 0 ∧ Q (a1 / (2 : Int32)) s) else (vp_in a2 16 ∧ wJ6_bitCount_0f7a4 (gA s 5 a2) s (fun r1 s2 => P4 (a1 + r1) (a2 + (1 : Int32)) s2)))
def wX2_knownPairs_4   (a1 : Int32) (a2 : Int32) (s : St) (Q : (Int32 → St → Prop)) : Prop := ∀ P : Int32 → Int32 → St → Prop, (∀ (a1 : Int32) (a2 : Int32) (s : St), wX2_knownPairs_4_b   P a1 a2 s Q → P a1 a2 s) → P a1 a2 s
def wX2_knownPairs  (s : St) (Q : (Int32 → St → Prop)) : Prop :=
  wX2_knownPairs_4   (0 : Int32) (0 : Int32) s Q
def wX3_forget  (s : St) (Q : (St → Prop)) : Prop :=
  wJ7_fill_53178_14 (0 : Int32) s (fun s2 => Q s2)
def wX3_allow (a1 : Int32) (a2 : Int32) (s : St) (Q : (St → Prop)) : Prop :=
  (vp_in a1 16 ∧ (vp_in a1 16 ∧ Q (stA s 14 a1 ((gA s 14 a1) ||| ((1 : Int32) <<< (a2 &&& 31))))))
def wX3_canHold_78 (RC : Int32 → Int32 → St → (Int32 → St → Prop) → Prop)  (a1 : Int32) (a3 : Int32) (s : St) (Q : (Int32 → St → Prop)) : Prop :=
  (vp_in a3 16 ∧ Q (1 : Int32) (stA s 16 a3 a1))
def wX3_canHold_10_b (RC : Int32 → Int32 → St → (Int32 → St → Prop) → Prop)  (P10 : Int32 → Int32 → Int32 → St → Prop) (a1 : Int32) (a2 : Int32) (a3 : Int32) (s : St) (Q : (Int32 → St → Prop)) : Prop :=
  (if (16 : Int32) ≤ a3 then Q (0 : Int32) s else (vp_in a1 16 ∧ (if (((gA s 14 a1) &&& (gF s 1303)) &&& ((1 : Int32) <<< (a3 &&& 31))) = 0 then P10 a1 a2 (a3 + (1 : Int32)) s else (vp_in a3 16 ∧ (if (gA (stF s 1303 ((gF s 1303) &&& (((1 : Int32) <<< (a3 &&& 31)) ^^^ (-1 : Int32)))) 16 a3) = (-4 : Int32) then wX3_canHold_78 RC  a1 a3 (stF s 1303 ((gF s 1303) &&& (((1 : Int32) <<< (a3 &&& 31)) ^^^ (-1 : Int32)))) Q else RC (gA (stF s 1303 ((gF s 1303) &&& (((1 : Int32) <<< (a3 &&& 31)) ^^^ (-1 : Int32)))) 16 a3) (a2 + (1 : Int32)) (stF s 1303 ((gF s 1303) &&& (((1 : Int32) <<< (a3 &&& 31)) ^^^ (-1 : Int32)))) (fun r1 s2 => (if r1 = 0 then P10 a1 a2 (a3 + (1 : Int32)) s2 else wX3_canHold_78 RC  a1 a3 s2 Q)))))))
def wX3_canHold_10 (RC : Int32 → Int32 → St → (Int32 → St → Prop) → Prop)  (a1 : Int32) (a2 : Int32) (a3 : Int32) (s : St) (Q : (Int32 → St → Prop)) : Prop := ∀ P : Int32 → Int32 → Int32 → St → Prop, (∀ (a1 : Int32) (a2 : Int32) (a3 : Int32) (s : St), wX3_canHold_10_b RC  P a1 a2 a3 s Q → P a1 a2 a3 s) → P a1 a2 a3 s
def wX3_canHold_b (RC : Int32 → Int32 → St → (Int32 → St → Prop) → Prop) (a1 : Int32) (a2 : Int32) (s : St) (Q : (Int32 → St → Prop)) : Prop :=
  (if a2 < (16 : Int32) then wX3_canHold_10 RC  a1 a2 (0 : Int32) s Q else Q (0 : Int32) s)
def wX3_canHold : Nat → Int32 → Int32 → St → (Int32 → St → Prop) → Prop
  | 0, _, _, _, _ => False
  | n + 1, a1, a2, s, Q => wX3_canHold_b (wX3_canHold n) a1 a2 s Q
def wX3_mostBehind_14_b   (P14 : Int32 → Int32 → Int32 → St → Prop) (a2 : Int32) (a3 : Int32) (a4 : Int32) (s : St) (Q : (Int32 → St → Prop)) : Prop :=
  (if (16 : Int32) ≤ a4 then Q a3 s else wX3_canHold 40 a4 (0 : Int32) (stF s 1303 a2) (fun r3 s4 => (if r3 = 0 then P14 a2 a3 (a4 + (1 : Int32)) s4 else P14 a2 (a3 + (1 : Int32)) (a4 + (1 : Int32)) s4)))
def wX3_mostBehind_14   (a2 : Int32) (a3 : Int32) (a4 : Int32) (s : St) (Q : (Int32 → St → Prop)) : Prop := ∀ P : Int32 → Int32 → Int32 → St → Prop, (∀ (a2 : Int32) (a3 : Int32) (a4 : Int32) (s : St), wX3_mostBehind_14_b   P a2 a3 a4 s Q → P a2 a3 a4 s) → P a2 a3 a4 s
def wX3_mostBehind (a1 : Int32) (a2 : Int32) (s : St) (Q : (Int32 → St → Prop)) : Prop :=
  wJ7_fill_53178_16 (-4 : Int32) s (fun s2 => wX3_mostBehind_14   a2 (0 : Int32) a1 s2 Q)
def wX3_mostOfAll  (s : St) (Q : (Int32 → St → Prop)) : Prop :=
  wX3_mostBehind (0 : Int32) (65535 : Int32) s (fun r1 s2 => Q r1 s2)
def wX3_leastFor_3_b   (P3 : Int32 → Int32 → Int32 → Int32 → St → Prop) (a1 : Int32) (a2 : Int32) (a3 : Int32) (a4 : Int32) (s : St) (Q : (Int32 → St → Prop)) : Prop :=
  (if (16 : Int32) ≤ a4 then Q (-4 : Int32) s else (vp_in a1 16 ∧ (if (((gA s 14 a1) &&& a2) &&& ((1 : Int32) <<< (a4 &&& 31))) = 0 then P3 a1 a2 a3 (a4 + (1 : Int32)) s else wX3_mostBehind (a1 + (1 : Int32)) (a2 &&& (((1 : Int32) <<< (a4 &&& 31)) ^^^ (-1 : Int32))) s (fun r1 s2 => (if ((1 : Int32) + r1) = a3 then Q a4 s2 else P3 a1 a2 a3 (a4 + (1 : Int32)) s2)))))
def wX3_leastFor_3   (a1 : Int32) (a2 : Int32) (a3 : Int32) (a4 : Int32) (s : St) (Q : (Int32 → St → Prop)) : Prop := ∀ P : Int32 → Int32 → Int32 → Int32 → St → Prop, (∀ (a1 : Int32) (a2 : Int32) (a3 : Int32) (a4 : Int32) (s : St), wX3_leastFor_3_b   P a1 a2 a3 a4 s Q → P a1 a2 a3 a4 s) → P a1 a2 a3 a4 s
def wX3_leastFor (a1 : Int32) (a2 : Int32) (a3 : Int32) (s : St) (Q : (Int32 → St → Prop)) : Prop :=
  wX3_leastFor_3   a1 a2 a3 (0 : Int32) s Q
def wX3_chooseAll_10_b   (P10 : Int32 → Int32 → Int32 → St → Prop) (a1 : Int32) (a2 : Int32) (a3 : Int32) (s : St) (Q : (St → Prop)) : Prop :=
  (if (16 : Int32) ≤ a3 then Q s else wX3_leastFor a3 a1 a2 s (fun r3 s4 => (vp_in a3 16 ∧ (vp_in a3 16 ∧ (if (gA (stA s4 15 a3 r3) 15 a3) = (-4 : Int32) then P10 a1 a2 (a3 + (1 : Int32)) (stA s4 15 a3 r3) else (vp_in a3 16 ∧ P10 (a1 &&& (((1 : Int32) <<< ((gA (stA s4 15 a3 r3) 15 a3) &&& 31)) ^^^ (-1 : Int32))) (a2 + (-1 : Int32)) (a3 + (1 : Int32)) (stA s4 15 a3 r3)))))))
def wX3_chooseAll_10   (a1 : Int32) (a2 : Int32) (a3 : Int32) (s : St) (Q : (St → Prop)) : Prop := ∀ P : Int32 → Int32 → Int32 → St → Prop, (∀ (a1 : Int32) (a2 : Int32) (a3 : Int32) (s : St), wX3_chooseAll_10_b   P a1 a2 a3 s Q → P a1 a2 a3 s) → P a1 a2 a3 s
def wX3_chooseAll  (s : St) (Q : (St → Prop)) : Prop :=
  wX3_mostOfAll  s (fun r1 s2 => wX3_chooseAll_10   (65535 : Int32) r1 (0 : Int32) s2 Q)
def wX4_isSomething (a1 : Int32) (s : St) (Q : (Int32 → St → Prop)) : Prop :=
  (vp_in a1 4 ∧ (if (gA s 19 a1) = (-4 : Int32) then Q (0 : Int32) s else Q (1 : Int32) s))
def wX4_renew_17_b   (P17 : Int32 → Int32 → St → Prop) (a1 : Int32) (a4 : Int32) (s : St) (Q : (St → Prop)) : Prop :=
  (if (60 : Int32) ≤ a4 then Q s else (vp_in ((a1 * (60 : Int32)) + a4) 240 ∧ P17 a1 (a4 + (1 : Int32)) (stA s 20 ((a1 * (60 : Int32)) + a4) (0 : Int32))))
def wX4_renew_17   (a1 : Int32) (a4 : Int32) (s : St) (Q : (St → Prop)) : Prop := ∀ P : Int32 → Int32 → St → Prop, (∀ (a1 : Int32) (a4 : Int32) (s : St), wX4_renew_17_b   P a1 a4 s Q → P a1 a4 s) → P a1 a4 s
def wX4_renew (a1 : Int32) (a2 : Int32) (a3 : Int32) (s : St) (Q : (St → Prop)) : Prop :=
  (vp_in a1 4 ∧ (vp_in a1 4 ∧ wX4_renew_17   a1 (0 : Int32) (stA (stA s 18 a1 a2) 19 a1 a3) Q))
def wX4_hasCells (a1 : Int32) (a2 : Int32) (a3 : Int32) (s : St) (Q : (Int32 → St → Prop)) : Prop :=
  (if a2 < 0 then Q (0 : Int32) s else (vp_in a1 4 ∧ (if ((gA s 19 a1) - a3) < a2 then Q (0 : Int32) s else Q (1 : Int32) s)))
def wX4_read (a1 : Int32) (a2 : Int32) (s : St) (Q : (Int32 → St → Prop)) : Prop :=
  (vp_in ((a1 * (60 : Int32)) + a2) 240 ∧ Q (gA s 20 ((a1 * (60 : Int32)) + a2)) s)
def wX4_lowestBits (a0 : Int32) (a1 : Int32) (s : St) (Q : (Int32 → St → Prop)) : Prop :=
  (if a0 = 0 then Q ((a1).toInt8.toInt32) s else (if a0 = 1 then Q ((a1).toInt16.toInt32) s else Q a1 s))
def wX4_write (a1 : Int32) (a2 : Int32) (a3 : Int32) (s : St) (Q : (St → Prop)) : Prop :=
  (vp_in a1 4 ∧ wX4_lowestBits (gA s 18 a1) a3 s (fun r1 s2 => (vp_in ((a1 * (60 : Int32)) + a2) 240 ∧ Q (stA s2 20 ((a1 * (60 : Int32)) + a2) r1))))
def wX5_isTold (a1 : Int32) (s : St) (Q : (Int32 → St → Prop)) : Prop :=
  (vp_in a1 4 ∧ (if (gA s 9 a1) = (-4 : Int32) then Q (0 : Int32) s else Q (1 : Int32) s))
def wX5_toldCustoms_4_b   (P4 : Int32 → Int32 → St → Prop) (a1 : Int32) (a2 : Int32) (s : St) (Q : (Int32 → St → Prop)) : Prop :=
  (if (4 : Int32) ≤ a2 then Q a1 s else wX5_isTold a2 s (fun r1 s2 => wX7_toInt r1 s2 (fun r3 s4 => P4 (a1 + r3) (a2 + (1 : Int32)) s4)))
def wX5_toldCustoms_4   (a1 : Int32) (a2 : Int32) (s : St) (Q : (Int32 → St → Prop)) : Prop := ∀ P : Int32 → Int32 → St → Prop, (∀ (a1 : Int32) (a2 : Int32) (s : St), wX5_toldCustoms_4_b   P a1 a2 s Q → P a1 a2 s) → P a1 a2 s
def wX5_toldCustoms  (s : St) (Q : (Int32 → St → Prop)) : Prop :=
  wX5_toldCustoms_4   (0 : Int32) (0 : Int32) s Q
def wX5_takeEight_14_b   (P14 : Int64 → Int32 → St → Prop) (a1 : Int64) (a3 : Int32) (s : St) (Q : (Int32 → St → Prop)) : Prop :=
  (if (8 : Int32) ≤ a3 then Q (gF (stF s 701 ((gF s 701) + (8 : Int32))) 701) (stF s 701 ((gF s 701) + (8 : Int32))) else (vp_in ((gF s 701) + a3) 100 ∧ P14 a1 (a3 + (1 : Int32)) (stA s 8 ((gF s 701) + a3) (vp_nar .byte ((((((a1).toUInt64 >>> ((((8 : Int32) * ((7 : Int32) - a3))).toInt64.toUInt64 &&& Int64.toUInt64 63)).toInt64).toInt32)).toInt8.toInt32)))))
def wX5_takeEight_14   (a1 : Int64) (a3 : Int32) (s : St) (Q : (Int32 → St → Prop)) : Prop := ∀ P : Int64 → Int32 → St → Prop, (∀ (a1 : Int64) (a3 : Int32) (s : St), wX5_takeEight_14_b   P a1 a3 s Q → P a1 a3 s) → P a1 a3 s
def wX5_takeEight (a1 : Int64) (s : St) (Q : (Int32 → St → Prop)) : Prop :=
  (if (gF s 701) ≤ (92 : Int32) then wX5_takeEight_14   a1 (0 : Int32) s Q else Q (-3 : Int32) s)
def wX7_isWithin (a0 : Int32) (a1 : Int32) (a2 : Int32) (s : St) (Q : (Int32 → St → Prop)) : Prop :=
  (if a0 < a1 then Q (0 : Int32) s else (if a2 < a0 then Q (0 : Int32) s else Q (1 : Int32) s))
def wX5_keepFirst (a1 : Int32) (s : St) (Q : (Int32 → St → Prop)) : Prop :=
  wX7_isWithin a1 (0 : Int32) (gF s 701) s (fun r1 s2 => (if r1 = 0 then Q (-1 : Int32) s2 else Q (gF s2 701) (stF s2 701 a1)))
def wX5_isLetter (a1 : Int32) (s : St) (Q : (Int32 → St → Prop)) : Prop :=
  (vp_in a1 100 ∧ (if (gA s 8 a1) < (97 : Int32) then Q (0 : Int32) s else (vp_in a1 100 ∧ (if (122 : Int32) < (gA s 8 a1) then Q (0 : Int32) s else Q (1 : Int32) s))))
def wJ0_coder_7d493 (a0 : Nat) (s : St) (Q : (Int32 → St → Prop)) : Prop :=
  (if (1 : Int32) = 0 then Q (1 : Int32) s else (a0 < 4 ∧ Q (0 : Int32) s))
def wJ0_length_8abf5 (a0 : Nat) (s : St) (Q : (Int32 → St → Prop)) : Prop :=
  (a0 < 4 ∧ (a0 < 4 ∧ (a0 < 4 ∧ wJ0_coder_7d493 a0 s (fun r1 s2 => Q ((Int32.ofNat (s_len.getD a0 0)) >>> (r1 &&& 31)) s2))))
def wJ0_isLatin1_aae02 (a0 : Nat) (s : St) (Q : (Int32 → St → Prop)) : Prop :=
  (if (1 : Int32) = 0 then Q (0 : Int32) s else (a0 < 4 ∧ (if (0 : Int32) = 0 then Q (1 : Int32) s else Q (0 : Int32) s)))
def wJ3_checkIndex_8e157_n_9   (a0 : Int32) (a1 : Int32) (s : St) (Q : (Int32 → St → Prop)) : Prop :=
  False
def wJ3_checkIndex_8e157_n (a0 : Int32) (a1 : Int32) (s : St) (Q : (Int32 → St → Prop)) : Prop :=
  (if a0 < 0 then wJ3_checkIndex_8e157_n_9   a0 a1 s Q else (if a0 < a1 then Q a0 s else wJ3_checkIndex_8e157_n_9   a0 a1 s Q))
def wJ3_checkIndex_8e157_q_9   (a0 : Int32) (a1 : Int32) (a2 : Nat) (s : St) (Q : (Int32 → St → Prop)) : Prop :=
  False
def wJ3_checkIndex_8e157_q (a0 : Int32) (a1 : Int32) (a2 : Nat) (s : St) (Q : (Int32 → St → Prop)) : Prop :=
  (if a0 < 0 then wJ3_checkIndex_8e157_q_9   a0 a1 a2 s Q else (if a0 < a1 then Q a0 s else wJ3_checkIndex_8e157_q_9   a0 a1 a2 s Q))
def wJ0_checkIndex_df160 (a0 : Int32) (a1 : Int32) (s : St) (Q : (St → Prop)) : Prop :=
  (wJ3_checkIndex_8e157_n a0 a1 s (fun r1 s2 => Q s2) ∧ ∀ v3 : Nat, wJ3_checkIndex_8e157_q a0 a1 v3 s (fun r4 s5 => Q s5))
def wJ1_charAt_3b067_s (a0 : Nat) (a1 : Int32) (s : St) (Q : (Int32 → St → Prop)) : Prop :=
  (a0 < 4 ∧ wJ0_checkIndex_df160 a1 (Int32.ofNat (s_len.getD a0 0)) s (fun s2 => (a0 < 4 ∧ vp_in a1 (s_len.getD a0 0) ∧ (narrow .char (.int ((((((s_byt.getD a0 []).getD (a1).toNatClampNeg 0) &&& (255 : Int32))).toUInt32 % 65536).toInt32)) = .int ((((((s_byt.getD a0 []).getD (a1).toNatClampNeg 0) &&& (255 : Int32))).toUInt32 % 65536).toInt32) ∧ Q ((((((s_byt.getD a0 []).getD (a1).toNatClampNeg 0) &&& (255 : Int32))).toUInt32 % 65536).toInt32) s2))))
def wJ0_charAt_5068e (a0 : Nat) (a1 : Int32) (s : St) (Q : (Int32 → St → Prop)) : Prop :=
  (a0 < 4 ∧ wJ0_isLatin1_aae02 a0 s (fun r1 s2 => (if r1 = 0 then (a0 < 4 ∧ False) else (a0 < 4 ∧ wJ1_charAt_3b067_s a0 a1 s2 (fun r3 s4 => (narrow .char (.int r3) = .int r3 ∧ Q r3 s4))))))
def wX5_isTokenText_20_b   (P20 : Nat → Int32 → St → Prop) (a1 : Nat) (a2 : Int32) (s : St) (Q : (Int32 → St → Prop)) : Prop :=
  (a1 < 4 ∧ wJ0_length_8abf5 a1 s (fun r3 s4 => (if r3 ≤ a2 then Q (1 : Int32) s4 else (vp_in ((gF s4 707) + a2) 100 ∧ (a1 < 4 ∧ wJ0_charAt_5068e a1 a2 s4 (fun r5 s6 => (if (gA s4 8 ((gF s4 707) + a2)) = r5 then P20 a1 (a2 + (1 : Int32)) s6 else Q (0 : Int32) s6)))))))
def wX5_isTokenText_20   (a1 : Nat) (a2 : Int32) (s : St) (Q : (Int32 → St → Prop)) : Prop := ∀ P : Nat → Int32 → St → Prop, (∀ (a1 : Nat) (a2 : Int32) (s : St), wX5_isTokenText_20_b   P a1 a2 s Q → P a1 a2 s) → P a1 a2 s
def wX5_isTokenText (a1 : Nat) (s : St) (Q : (Int32 → St → Prop)) : Prop :=
  (a1 < 4 ∧ wJ0_length_8abf5 a1 s (fun r1 s2 => (if ((gF s 705) - (gF s 707)) = r1 then wX5_isTokenText_20   a1 (0 : Int32) s2 Q else Q (0 : Int32) s2)))
def wX5_readName_43_b   (P43 : Int32 → St → Prop) (a1 : Int32) (s : St) (Q : (St → Prop)) : Prop :=
  (if (4 : Int32) ≤ a1 then (if (gF s 708) = (-4 : Int32) then Q (stF s 706 (4 : Int32)) else Q (stF s 706 (1 : Int32))) else (∀ r1 : Nat, r1 = nm_of a1 → wX5_isTokenText r1 s (fun r2 s3 => (if r2 = 0 then P43 (a1 + (1 : Int32)) s3 else P43 (a1 + (1 : Int32)) (stF s3 708 a1)))))
def wX5_readName_43   (a1 : Int32) (s : St) (Q : (St → Prop)) : Prop := ∀ P : Int32 → St → Prop, (∀ (a1 : Int32) (s : St), wX5_readName_43_b   P a1 s Q → P a1 s) → P a1 s
def wX5_readName_0_b   (P0 : St → Prop)  (s : St) (Q : (St → Prop)) : Prop :=
  (if (gF s 701) ≤ (gF s 705) then wX5_readName_43   (0 : Int32) (stF s 708 (-4 : Int32)) Q else wX5_isLetter (gF s 705) s (fun r4 s5 => (if r4 = 0 then wX5_readName_43   (0 : Int32) (stF s5 708 (-4 : Int32)) Q else P0  (stF s5 705 ((gF s5 705) + (1 : Int32))))))
def wX5_readName_0    (s : St) (Q : (St → Prop)) : Prop := ∀ P : St → Prop, (∀  (s : St), wX5_readName_0_b   P  s Q → P  s) → P  s
def wX5_readName  (s : St) (Q : (St → Prop)) : Prop :=
  wX5_readName_0    s Q
def wX5_isFigure (a1 : Int32) (s : St) (Q : (Int32 → St → Prop)) : Prop :=
  (vp_in a1 100 ∧ (if (gA s 8 a1) < (48 : Int32) then Q (0 : Int32) s else (vp_in a1 100 ∧ (if (57 : Int32) < (gA s 8 a1) then Q (0 : Int32) s else Q (1 : Int32) s))))
def wX5_readNumber_64    (s : St) (Q : (St → Prop)) : Prop :=
  (if ((gF s 705) - (gF s 707)) ≤ (3 : Int32) then Q (stF s 706 (2 : Int32)) else Q (stF s 706 (4 : Int32)))
def wX5_readNumber_5_b   (P5 : St → Prop)  (s : St) (Q : (St → Prop)) : Prop :=
  (if (gF s 701) ≤ (gF s 705) then wX5_readNumber_64    s Q else wX5_isFigure (gF s 705) s (fun r1 s2 => (if r1 = 0 then wX5_readNumber_64    s2 Q else (vp_in (gF s2 705) 100 ∧ P5  (stF (stF s2 708 ((((10 : Int32) * (gF s2 708)) + (gA s2 8 (gF s2 705))) - (48 : Int32))) 705 ((gF (stF s2 708 ((((10 : Int32) * (gF s2 708)) + (gA s2 8 (gF s2 705))) - (48 : Int32))) 705) + (1 : Int32)))))))
def wX5_readNumber_5    (s : St) (Q : (St → Prop)) : Prop := ∀ P : St → Prop, (∀  (s : St), wX5_readNumber_5_b   P  s Q → P  s) → P  s
def wX5_readNumber  (s : St) (Q : (St → Prop)) : Prop :=
  wX5_readNumber_5    (stF s 708 (0 : Int32)) Q
def wX5_readToken_121   (t0 : Int32) (s : St) (Q : (St → Prop)) : Prop :=
  Q (stF (stF s 706 t0) 705 ((gF (stF s 706 t0) 705) + (1 : Int32)))
def wX5_readToken_38    (s : St) (Q : (St → Prop)) : Prop :=
  (if (gF (stF s 707 (gF s 705)) 705) < (gF (stF s 707 (gF s 705)) 701) then wX5_isLetter (gF (stF s 707 (gF s 705)) 705) (stF s 707 (gF s 705)) (fun r1 s2 => (if r1 = 0 then wX5_isFigure (gF s2 705) s2 (fun r3 s4 => (if r3 = 0 then (vp_in (gF s4 705) 100 ∧ (if (gA s4 8 (gF s4 705)) = (59 : Int32) then wX5_readToken_121   (3 : Int32) s4 Q else wX5_readToken_121   (4 : Int32) s4 Q)) else wX5_readNumber  s4 (fun s6 => Q s6))) else wX5_readName  s2 (fun s8 => Q s8))) else Q (stF (stF s 707 (gF s 705)) 706 (0 : Int32)))
def wX5_readToken_0_b   (P0 : St → Prop)  (s : St) (Q : (St → Prop)) : Prop :=
  (if (gF s 701) ≤ (gF s 705) then wX5_readToken_38    s Q else (vp_in (gF s 705) 100 ∧ (if (gA s 8 (gF s 705)) = (32 : Int32) then P0  (stF s 705 ((gF s 705) + (1 : Int32))) else wX5_readToken_38    s Q)))
def wX5_readToken_0    (s : St) (Q : (St → Prop)) : Prop := ∀ P : St → Prop, (∀  (s : St), wX5_readToken_0_b   P  s Q → P  s) → P  s
def wX5_readToken  (s : St) (Q : (St → Prop)) : Prop :=
  wX5_readToken_0    s Q
def wX5_faultUnless (a1 : Int32) (s : St) (Q : (Int32 → St → Prop)) : Prop :=
  (if (gF s 706) = (4 : Int32) then Q (1 : Int32) s else (if (gF s 706) = a1 then Q (0 : Int32) s else Q (2 : Int32) s))
def wX5_readCustom  (s : St) (Q : (Int32 → St → Prop)) : Prop :=
  wX5_faultUnless (1 : Int32) s (fun r1 s2 => (if r1 = 0 then (vp_in (gF s2 708) 4 ∧ (if (gA s2 10 (gF s2 708)) = (-4 : Int32) then wX5_readToken  s2 (fun s4 => wX5_faultUnless (2 : Int32) s4 (fun r5 s6 => (if r5 = 0 then (vp_in (gF s2 708) 4 ∧ (vp_in (gF s2 708) 4 ∧ wX7_isWithin (gF s6 708) (c_LEAST ((gF s2 708)).toNatClampNeg) (c_MOST ((gF s2 708)).toNatClampNeg) s6 (fun r7 s8 => (if r7 = 0 then Q (3 : Int32) s8 else (vp_in (gF s2 708) 4 ∧ wX5_readToken  (stA s8 10 (gF s2 708) (gF s8 708)) (fun s10 => wX5_faultUnless (3 : Int32) s10 (fun r11 s12 => Q r11 s12))))))) else Q r5 s6))) else Q (4 : Int32) s2)) else Q r1 s2))
def wX5_readText_2_b   (P2 : Int32 → St → Prop) (a1 : Int32) (s : St) (Q : (Int32 → St → Prop)) : Prop :=
  (if (4 : Int32) < a1 then Q (4 : Int32) s else wX5_readToken  s (fun s2 => (if (gF s2 706) = 0 then Q (0 : Int32) s2 else wX5_readCustom  s2 (fun r3 s4 => (if r3 = 0 then P2 (a1 + (1 : Int32)) s4 else Q r3 s4)))))
def wX5_readText_2   (a1 : Int32) (s : St) (Q : (Int32 → St → Prop)) : Prop := ∀ P : Int32 → St → Prop, (∀ (a1 : Int32) (s : St), wX5_readText_2_b   P a1 s Q → P a1 s) → P a1 s
def wX5_readText  (s : St) (Q : (Int32 → St → Prop)) : Prop :=
  wX5_readText_2   (0 : Int32) s Q
def wX5_tellAll  (s : St) (Q : (Int32 → St → Prop)) : Prop :=
  wJ7_fill_53178_10 (-4 : Int32) s (fun s2 => wX5_readText  (stF s2 705 (0 : Int32)) (fun r3 s4 => (if (gF (stF (stF s4 702 r3) 701 (0 : Int32)) 702) = 0 then wX5_toldCustoms  (cp4 (stF (stF s4 702 r3) 701 (0 : Int32)) 10 9) (fun r5 s6 => Q r5 s6) else Q ((-10 : Int32) - (gF (stF (stF s4 702 r3) 701 (0 : Int32)) 707)) (stF (stF s4 702 r3) 701 (0 : Int32)))))
def wX6_change (a1 : Int32) (a2 : Int32) (a3 : Int32) (s : St) (Q : (Int32 → St → Prop)) : Prop :=
  (vp_in ((a1 * (16 : Int32)) + a2) 256 ∧ (vp_in ((a1 * (16 : Int32)) + a2) 256 ∧ Q (gA s 22 ((a1 * (16 : Int32)) + a2)) (stF (stA s 22 ((a1 * (16 : Int32)) + a2) a3) 2102 (0 : Int32))))
def wX6_ofOne_4_b   (P4 : Int32 → Int32 → Int32 → St → Prop) (a1 : Int32) (a2 : Int32) (a3 : Int32) (s : St) (Q : (Int32 → St → Prop)) : Prop :=
  (if (16 : Int32) ≤ a3 then Q a2 s else (vp_in ((a1 * (16 : Int32)) + a3) 256 ∧ (vp_in ((a3 * (16 : Int32)) + a1) 256 ∧ P4 a1 (a2 + ((gA s 22 ((a1 * (16 : Int32)) + a3)) + (gA s 22 ((a3 * (16 : Int32)) + a1)))) (a3 + (1 : Int32)) s)))
def wX6_ofOne_4   (a1 : Int32) (a2 : Int32) (a3 : Int32) (s : St) (Q : (Int32 → St → Prop)) : Prop := ∀ P : Int32 → Int32 → Int32 → St → Prop, (∀ (a1 : Int32) (a2 : Int32) (a3 : Int32) (s : St), wX6_ofOne_4_b   P a1 a2 a3 s Q → P a1 a2 a3 s) → P a1 a2 a3 s
def wX6_ofOne (a1 : Int32) (s : St) (Q : (Int32 → St → Prop)) : Prop :=
  wX6_ofOne_4   a1 (0 : Int32) (0 : Int32) s Q
def wX6_mostOfOne_4_b   (P4 : Int32 → Int32 → St → Prop) (a1 : Int32) (a2 : Int32) (s : St) (Q : (Int32 → St → Prop)) : Prop :=
  (if (16 : Int32) ≤ a2 then Q a1 s else wX6_ofOne a2 s (fun r1 s2 => P4 (if a1 < r1 then r1 else a1) (a2 + (1 : Int32)) s2))
def wX6_mostOfOne_4   (a1 : Int32) (a2 : Int32) (s : St) (Q : (Int32 → St → Prop)) : Prop := ∀ P : Int32 → Int32 → St → Prop, (∀ (a1 : Int32) (a2 : Int32) (s : St), wX6_mostOfOne_4_b   P a1 a2 s Q → P a1 a2 s) → P a1 a2 s
def wX6_mostOfOne  (s : St) (Q : (Int32 → St → Prop)) : Prop :=
  wX6_mostOfOne_4   (0 : Int32) (0 : Int32) s Q
def wX6_planned (a1 : Int32) (a2 : Int32) (s : St) (Q : (Int32 → St → Prop)) : Prop :=
  (vp_in ((a1 * (64 : Int32)) + a2) 1024 ∧ Q (gA s 23 ((a1 * (64 : Int32)) + a2)) s)
def wX6_leastFree_2_b   (P2 : Int32 → Int32 → St → Prop) (a1 : Int32) (a2 : Int32) (s : St) (Q : (Int32 → St → Prop)) : Prop :=
  (if (64 : Int32) ≤ a2 then Q (-4 : Int32) s else wX6_planned a1 a2 s (fun r1 s2 => (if r1 = (-4 : Int32) then Q a2 s2 else P2 a1 (a2 + (1 : Int32)) s2)))
def wX6_leastFree_2   (a1 : Int32) (a2 : Int32) (s : St) (Q : (Int32 → St → Prop)) : Prop := ∀ P : Int32 → Int32 → St → Prop, (∀ (a1 : Int32) (a2 : Int32) (s : St), wX6_leastFree_2_b   P a1 a2 s Q → P a1 a2 s) → P a1 a2 s
def wX6_leastFree (a1 : Int32) (s : St) (Q : (Int32 → St → Prop)) : Prop :=
  wX6_leastFree_2   a1 (0 : Int32) s Q
def wX6_enter (a1 : Int32) (a2 : Int32) (a3 : Int32) (s : St) (Q : (St → Prop)) : Prop :=
  (vp_in ((a1 * (64 : Int32)) + a2) 1024 ∧ Q (stA s 23 ((a1 * (64 : Int32)) + a2) a3))
def wX6_changeRow_6_b   (P6 : Int32 → Int32 → Int32 → Int32 → St → Prop) (a2 : Int32) (a3 : Int32) (a4 : Int32) (a5 : Int32) (s : St) (Q : (St → Prop)) : Prop :=
  (if (16 : Int32) ≤ a5 then Q s else (if a4 = (-4 : Int32) then Q s else wX6_planned a4 a2 s (fun r1 s2 => wX6_planned a4 a3 s2 (fun r3 s4 => wX6_enter a4 a2 r3 s4 (fun s6 => wX6_enter a4 a3 r1 s6 (fun s8 => (¬ (2 : Int32) = 0 ∧ (if (a5 - a5 / (2 : Int32) * (2 : Int32)) = 0 then P6 a2 a3 r1 (a5 + (1 : Int32)) s8 else P6 a2 a3 r3 (a5 + (1 : Int32)) s8))))))))
def wX6_changeRow_6   (a2 : Int32) (a3 : Int32) (a4 : Int32) (a5 : Int32) (s : St) (Q : (St → Prop)) : Prop := ∀ P : Int32 → Int32 → Int32 → Int32 → St → Prop, (∀ (a2 : Int32) (a3 : Int32) (a4 : Int32) (a5 : Int32) (s : St), wX6_changeRow_6_b   P a2 a3 a4 a5 s Q → P a2 a3 a4 a5 s) → P a2 a3 a4 a5 s
def wX6_changeRow (a1 : Int32) (a2 : Int32) (a3 : Int32) (s : St) (Q : (St → Prop)) : Prop :=
  wX6_changeRow_6   a2 a3 a1 (0 : Int32) s Q
def wX6_planOne_41   (a1 : Int32) (a2 : Int32) (a3 : Int32) (s : St) (Q : (St → Prop)) : Prop :=
  wX6_enter a1 a3 a2 s (fun s6 => wX6_enter a2 a3 a1 s6 (fun s8 => Q s8))
def wX6_planOne (a1 : Int32) (a2 : Int32) (s : St) (Q : (St → Prop)) : Prop :=
  wX6_leastFree a1 s (fun r1 s2 => wX6_leastFree a2 s2 (fun r3 s4 => (if r1 = (-4 : Int32) then Q s4 else (if r3 = (-4 : Int32) then Q s4 else (if r1 = r3 then wX6_planOne_41   a1 a2 r1 s4 Q else wX6_changeRow a2 r1 r3 s4 (fun s10 => wX6_planOne_41   a1 a2 r1 s10 Q))))))
def wX6_planAll_27_b  (P11 : Int32 → St → Prop) (P19 : Int32 → Int32 → St → Prop) (P27 : Int32 → Int32 → Int32 → St → Prop) (a1 : Int32) (a2 : Int32) (a3 : Int32) (s : St) (Q : (St → Prop)) : Prop :=
  (vp_in ((a1 * (16 : Int32)) + a2) 256 ∧ (if (gA s 22 ((a1 * (16 : Int32)) + a2)) ≤ a3 then P19 a1 (a2 + (1 : Int32)) s else wX6_planOne a1 a2 s (fun s4 => P27 a1 a2 (a3 + (1 : Int32)) s4)))
def wX6_planAll_27  (P11 : Int32 → St → Prop) (P19 : Int32 → Int32 → St → Prop) (a1 : Int32) (a2 : Int32) (a3 : Int32) (s : St) (Q : (St → Prop)) : Prop := ∀ P : Int32 → Int32 → Int32 → St → Prop, (∀ (a1 : Int32) (a2 : Int32) (a3 : Int32) (s : St), wX6_planAll_27_b  P11 P19 P a1 a2 a3 s Q → P a1 a2 a3 s) → P a1 a2 a3 s
def wX6_planAll_19_b  (P11 : Int32 → St → Prop) (P19 : Int32 → Int32 → St → Prop) (a1 : Int32) (a2 : Int32) (s : St) (Q : (St → Prop)) : Prop :=
  (if (16 : Int32) ≤ a2 then P11 (a1 + (1 : Int32)) s else wX6_planAll_27  P11 P19 a1 a2 (0 : Int32) s Q)
def wX6_planAll_19  (P11 : Int32 → St → Prop) (a1 : Int32) (a2 : Int32) (s : St) (Q : (St → Prop)) : Prop := ∀ P : Int32 → Int32 → St → Prop, (∀ (a1 : Int32) (a2 : Int32) (s : St), wX6_planAll_19_b  P11 P a1 a2 s Q → P a1 a2 s) → P a1 a2 s
def wX6_planAll_11_b   (P11 : Int32 → St → Prop) (a1 : Int32) (s : St) (Q : (St → Prop)) : Prop :=
  (if (16 : Int32) ≤ a1 then Q (stF s 2102 (1 : Int32)) else wX6_planAll_19  P11 a1 (0 : Int32) s Q)
def wX6_planAll_11   (a1 : Int32) (s : St) (Q : (St → Prop)) : Prop := ∀ P : Int32 → St → Prop, (∀ (a1 : Int32) (s : St), wX6_planAll_11_b   P a1 s Q → P a1 s) → P a1 s
def wX6_planAll  (s : St) (Q : (St → Prop)) : Prop :=
  wJ7_fill_53178_23 (-4 : Int32) s (fun s2 => wX6_planAll_11   (0 : Int32) s2 Q)
def wX6_partnerIn_11   (a1 : Int32) (a2 : Int32) (s : St) (Q : (Int32 → St → Prop)) : Prop :=
  wX6_planned a1 a2 s (fun r1 s2 => Q r1 s2)
def wX6_partnerIn (a1 : Int32) (a2 : Int32) (s : St) (Q : (Int32 → St → Prop)) : Prop :=
  (if (gF s 2102) = 0 then wX6_planAll  s (fun s4 => wX6_partnerIn_11   a1 a2 s4 Q) else wX6_partnerIn_11   a1 a2 s Q)
def wX7_person (a1 : Int32) (a2 : Int32) (s : St) (Q : (Int32 → St → Prop)) : Prop :=
  wX7_isWithin a2 (0 : Int32) (9 : Int32) s (fun r1 s2 => (if r1 = 0 then Q (-1 : Int32) s2 else (if (gF s2 100) < (16 : Int32) then wX2_welcome a1 a2 s2 (fun r3 s4 => Q r3 s4) else Q (-3 : Int32) s2)))
def wX7_areTwo (a1 : Int32) (a2 : Int32) (s : St) (Q : (Int32 → St → Prop)) : Prop :=
  (if a1 = a2 then Q (0 : Int32) s else wX2_isThere a1 s (fun r1 s2 => (if r1 = 0 then Q (0 : Int32) s2 else wX2_isThere a2 s2 (fun r3 s4 => (if r3 = 0 then Q (0 : Int32) s4 else Q (1 : Int32) s4)))))
def wX7_introduce_88   (a2 : Int32) (a3 : Int32) (s : St) (Q : (Int32 → St → Prop)) : Prop :=
  wX2_makeKnown a2 a3 s (fun s6 => Q (1 : Int32) s6)
def wX7_introduce_40   (a1 : Int32) (a2 : Int32) (a3 : Int32) (s : St) (Q : (Int32 → St → Prop)) : Prop :=
  wX2_areKnown a2 a3 s (fun r3 s4 => (if r3 = 0 then (if a1 = (-4 : Int32) then wX7_introduce_88   a2 a3 s4 Q else wX2_areKnown a1 a2 s4 (fun r7 s8 => (if r7 = 0 then Q (-2 : Int32) s8 else wX2_areKnown a1 a3 s8 (fun r9 s10 => (if r9 = 0 then Q (-2 : Int32) s10 else wX7_introduce_88   a2 a3 s10 Q))))) else Q (-2 : Int32) s4))
def wX7_introduce (a1 : Int32) (a2 : Int32) (a3 : Int32) (s : St) (Q : (Int32 → St → Prop)) : Prop :=
  wX7_areTwo a2 a3 s (fun r1 s2 => (if r1 = 0 then Q (-1 : Int32) s2 else (if a1 = a2 then Q (-1 : Int32) s2 else (if a1 = a3 then Q (-1 : Int32) s2 else (if a1 = (-4 : Int32) then wX7_introduce_40   a1 a2 a3 s2 Q else wX2_isThere a1 s2 (fun r11 s12 => (if r11 = 0 then Q (-1 : Int32) s12 else wX7_introduce_40   a1 a2 a3 s12 Q)))))))
def wX7_feud (a1 : Int32) (a2 : Int32) (a3 : Int32) (s : St) (Q : (Int32 → St → Prop)) : Prop :=
  wX7_areTwo a1 a2 s (fun r1 s2 => (if r1 = 0 then Q (-1 : Int32) s2 else wX2_areAtFeud a1 a2 s2 (fun r3 s4 => wX7_toInt r3 s4 (fun r5 s6 => wX2_putAtFeud a1 a2 a3 s6 (fun s8 => Q r5 s8)))))
def wX7_knows (a1 : Int32) (a2 : Int32) (s : St) (Q : (Int32 → St → Prop)) : Prop :=
  wX2_isThere a1 s (fun r1 s2 => (if r1 = 0 then Q (-1 : Int32) s2 else wX2_isThere a2 s2 (fun r3 s4 => (if r3 = 0 then Q (-1 : Int32) s4 else wX2_areKnown a1 a2 s4 (fun r5 s6 => wX7_toInt r5 s6 (fun r7 s8 => Q r7 s8))))))
def wX7_feed (a1 : Int64) (s : St) (Q : (Int32 → St → Prop)) : Prop :=
  wX5_takeEight a1 s (fun r1 s2 => Q r1 s2)
def wX7_end (a1 : Int32) (s : St) (Q : (Int32 → St → Prop)) : Prop :=
  wX5_keepFirst a1 s (fun r1 s2 => Q r1 s2)
def wX7_customs  (s : St) (Q : (Int32 → St → Prop)) : Prop :=
  wX5_tellAll  s (fun r1 s2 => Q r1 s2)
def wX7_fault  (s : St) (Q : (Int32 → St → Prop)) : Prop :=
  Q (gF s 702) s
def wX7_custom (a1 : Int32) (s : St) (Q : (Int32 → St → Prop)) : Prop :=
  wX7_isWithin a1 (0 : Int32) (3 : Int32) s (fun r1 s2 => (if r1 = 0 then Q (-1 : Int32) s2 else (vp_in a1 4 ∧ Q (gA s2 9 a1) s2)))
def wX7_isDance (a0 : Int32) (s : St) (Q : (Int32 → St → Prop)) : Prop :=
  wX7_isWithin a0 (0 : Int32) (23 : Int32) s (fun r1 s2 => (narrow .boolean (.int r1) = .int r1 ∧ Q r1 s2))
def wX7_isAsking (a1 : Int32) (a2 : Int32) (a3 : Int32) (s : St) (Q : (Int32 → St → Prop)) : Prop :=
  wX2_isGentleman a1 s (fun r1 s2 => (if r1 = 0 then Q (0 : Int32) s2 else wX2_isLady a2 s2 (fun r3 s4 => (if r3 = 0 then Q (0 : Int32) s4 else wX7_isDance a3 s4 (fun r5 s6 => (if r5 = 0 then Q (0 : Int32) s6 else Q (1 : Int32) s6))))))
def wX7_customAgainst_90   (a3 : Int32) (a4 : Int32) (s : St) (Q : (Int32 → St → Prop)) : Prop :=
  wX5_isTold (3 : Int32) s (fun r11 s12 => (if r11 = 0 then Q (0 : Int32) s12 else (vp_in (3 : Int32) 4 ∧ (if a3 = (gA s12 9 (3 : Int32)) then (if a4 = 0 then Q (8 : Int32) s12 else Q (0 : Int32) s12) else Q (0 : Int32) s12))))
def wX7_customAgainst_62   (a3 : Int32) (a4 : Int32) (a5 : Int32) (s : St) (Q : (Int32 → St → Prop)) : Prop :=
  wX5_isTold (2 : Int32) s (fun r9 s10 => (if r9 = 0 then wX7_customAgainst_90   a3 a4 s10 Q else (vp_in (2 : Int32) 4 ∧ (if a5 ≤ (gA s10 9 (2 : Int32)) then wX7_customAgainst_90   a3 a4 s10 Q else Q (7 : Int32) s10))))
def wX7_customAgainst (a1 : Int32) (a2 : Int32) (a3 : Int32) (s : St) (Q : (Int32 → St → Prop)) : Prop :=
  wX0_together a1 a2 s (fun r1 s2 => wX0_rowThrough a1 a3 s2 (fun r3 s4 => wX0_rowThrough a2 a3 s4 (fun r5 s6 => wX5_isTold (0 : Int32) s6 (fun r7 s8 => (if r7 = 0 then wX7_customAgainst_62   a3 r1 (if r3 < r5 then r5 else r3) s8 Q else (vp_in (0 : Int32) 4 ∧ (if r1 < (gA s8 9 (0 : Int32)) then wX7_customAgainst_62   a3 r1 (if r3 < r5 then r5 else r3) s8 Q else Q (6 : Int32) s8)))))))
def wX7_reasonAgainst_86   (a1 : Int32) (a2 : Int32) (a3 : Int32) (s : St) (Q : (Int32 → St → Prop)) : Prop :=
  wX0_isTaken a1 a3 s (fun r11 s12 => (if r11 = 0 then wX0_isTaken a2 a3 s12 (fun r13 s14 => (if r13 = 0 then wX7_customAgainst a1 a2 a3 s14 (fun r15 s16 => Q r15 s16) else Q (5 : Int32) s14)) else Q (5 : Int32) s12))
def wX7_reasonAgainst (a1 : Int32) (a2 : Int32) (a3 : Int32) (s : St) (Q : (Int32 → St → Prop)) : Prop :=
  wX2_isIll a1 s (fun r1 s2 => (if r1 = 0 then wX2_isIll a2 s2 (fun r3 s4 => (if r3 = 0 then wX2_areKnown a1 a2 s4 (fun r5 s6 => (if r5 = 0 then Q (2 : Int32) s6 else wX2_areAtFeud a1 a2 s6 (fun r7 s8 => (if r7 = 0 then wX5_isTold (1 : Int32) s8 (fun r9 s10 => (if r9 = 0 then wX7_reasonAgainst_86   a1 a2 a3 s10 Q else wX2_rankGap a1 a2 s10 (fun r17 s18 => (vp_in (1 : Int32) 4 ∧ (if r17 ≤ (gA s18 9 (1 : Int32)) then wX7_reasonAgainst_86   a1 a2 a3 s18 Q else Q (4 : Int32) s18))))) else Q (3 : Int32) s8)))) else Q (1 : Int32) s4)) else Q (1 : Int32) s2))
def wX7_ask (a1 : Int32) (a2 : Int32) (a3 : Int32) (s : St) (Q : (Int32 → St → Prop)) : Prop :=
  wX7_isAsking a1 a2 a3 s (fun r1 s2 => (if r1 = 0 then Q (-1 : Int32) s2 else wX7_reasonAgainst a1 a2 a3 s2 (fun r3 s4 => (if r3 = 0 then wX0_join a1 a2 a3 s4 (fun s6 => Q (1 : Int32) s6) else Q ((-10 : Int32) - r3) s4))))
def wX7_why (a1 : Int32) (a2 : Int32) (a3 : Int32) (s : St) (Q : (Int32 → St → Prop)) : Prop :=
  wX7_isAsking a1 a2 a3 s (fun r1 s2 => (if r1 = 0 then Q (-1 : Int32) s2 else wX7_reasonAgainst a1 a2 a3 s2 (fun r3 s4 => Q r3 s4)))
def wX7_refuse (a1 : Int32) (a2 : Int32) (a3 : Int32) (s : St) (Q : (Int32 → St → Prop)) : Prop :=
  wX7_isAsking a2 a1 a3 s (fun r1 s2 => (if r1 = 0 then Q (-1 : Int32) s2 else wX7_reasonAgainst a2 a1 a3 s2 (fun r3 s4 => (if r3 = 0 then wX0_sitOut a1 a3 s4 (fun s6 => Q (1 : Int32) s6) else Q ((-10 : Int32) - r3) s4))))
def wX7_part (a1 : Int32) (a2 : Int32) (a3 : Int32) (s : St) (Q : (Int32 → St → Prop)) : Prop :=
  wX7_isAsking a1 a2 a3 s (fun r1 s2 => (if r1 = 0 then Q (-1 : Int32) s2 else wX0_entry a1 a3 s2 (fun r3 s4 => (if r3 = a2 then wX0_separate a1 a2 a3 s4 (fun s6 => Q (1 : Int32) s6) else Q (-2 : Int32) s4))))
def wX7_swap_170   (a3 : Int32) (a6 : Int32) (t0 : Int32) (t1 : Int32) (s : St) (Q : (Int32 → St → Prop)) : Prop :=
  wX0_join t1 t0 a3 s (fun s24 => (if a6 = 0 then Q (1 : Int32) s24 else Q ((-10 : Int32) - a6) s24))
def wX7_swap_149   (a2 : Int32) (a3 : Int32) (a4 : Int32) (a5 : Int32) (a6 : Int32) (t0 : Int32) (t1 : Int32) (s : St) (Q : (Int32 → St → Prop)) : Prop :=
  wX0_join t1 t0 a3 s (fun s22 => (if a6 = 0 then wX7_swap_170   a3 a6 a4 a2 s22 Q else wX7_swap_170   a3 a6 a5 a2 s22 Q))
def wX7_swap_132   (a1 : Int32) (a2 : Int32) (a3 : Int32) (a4 : Int32) (a5 : Int32) (a6 : Int32) (s : St) (Q : (Int32 → St → Prop)) : Prop :=
  (if a6 = 0 then wX7_swap_149   a2 a3 a4 a5 a6 a5 a1 s Q else wX7_swap_149   a2 a3 a4 a5 a6 a4 a1 s Q)
def wX7_swap (a1 : Int32) (a2 : Int32) (a3 : Int32) (s : St) (Q : (Int32 → St → Prop)) : Prop :=
  wX2_isGentleman a1 s (fun r1 s2 => (if r1 = 0 then Q (-1 : Int32) s2 else wX2_isGentleman a2 s2 (fun r3 s4 => (if r3 = 0 then Q (-1 : Int32) s4 else (if a1 = a2 then Q (-1 : Int32) s4 else wX7_isDance a3 s4 (fun r5 s6 => (if r5 = 0 then Q (-1 : Int32) s6 else wX0_isPaired a1 a3 s6 (fun r7 s8 => (if r7 = 0 then Q (-2 : Int32) s8 else wX0_isPaired a2 a3 s8 (fun r9 s10 => (if r9 = 0 then Q (-2 : Int32) s10 else wX0_entry a1 a3 s10 (fun r11 s12 => wX0_entry a2 a3 s12 (fun r13 s14 => wX0_separate a1 r11 a3 s14 (fun s16 => wX0_separate a2 r13 a3 s16 (fun s18 => wX7_reasonAgainst a1 r13 a3 s18 (fun r19 s20 => (if r19 = 0 then wX7_reasonAgainst a2 r11 a3 s20 (fun r25 s26 => wX7_swap_132   a1 a2 a3 r11 r13 r25 s26 Q) else wX7_swap_132   a1 a2 a3 r11 r13 r19 s20 Q)))))))))))))))))
def wX7_card (a1 : Int32) (a2 : Int32) (s : St) (Q : (Int32 → St → Prop)) : Prop :=
  wX2_isThere a1 s (fun r1 s2 => (if r1 = 0 then Q (-1 : Int32) s2 else wX7_isDance a2 s2 (fun r3 s4 => (if r3 = 0 then Q (-1 : Int32) s4 else wX0_entry a1 a2 s4 (fun r5 s6 => Q r5 s6)))))
def wX7_ill (a1 : Int32) (s : St) (Q : (Int32 → St → Prop)) : Prop :=
  wX2_isThere a1 s (fun r1 s2 => (if r1 = 0 then Q (-1 : Int32) s2 else wX2_isIll a1 s2 (fun r3 s4 => (if r3 = 0 then wX2_makeIll a1 (1 : Int32) s4 (fun s6 => wX0_separateAll a1 s6 (fun r7 s8 => Q r7 s8)) else Q (-2 : Int32) s4))))
def wX7_well (a1 : Int32) (s : St) (Q : (Int32 → St → Prop)) : Prop :=
  wX2_isThere a1 s (fun r1 s2 => (if r1 = 0 then Q (-1 : Int32) s2 else wX2_isIll a1 s2 (fun r3 s4 => (if r3 = 0 then Q (-2 : Int32) s4 else wX2_makeIll a1 (0 : Int32) s4 (fun s6 => Q (1 : Int32) s6)))))
def wX7_findPossiblePairs_17_b  (P9 : Int32 → Int32 → St → Prop) (P17 : Int32 → Int32 → Int32 → St → Prop) (a1 : Int32) (a2 : Int32) (a3 : Int32) (s : St) (Q : (St → Prop)) : Prop :=
  (if (16 : Int32) ≤ a3 then P9 a1 (a2 + (1 : Int32)) s else wX7_isAsking a3 a2 a1 s (fun r3 s4 => (if r3 = 0 then P17 a1 a2 (a3 + (1 : Int32)) s4 else wX7_reasonAgainst a3 a2 a1 s4 (fun r5 s6 => (if r5 = 0 then wX3_allow a2 a3 s6 (fun s8 => P17 a1 a2 (a3 + (1 : Int32)) s8) else P17 a1 a2 (a3 + (1 : Int32)) s6)))))
def wX7_findPossiblePairs_17  (P9 : Int32 → Int32 → St → Prop) (a1 : Int32) (a2 : Int32) (a3 : Int32) (s : St) (Q : (St → Prop)) : Prop := ∀ P : Int32 → Int32 → Int32 → St → Prop, (∀ (a1 : Int32) (a2 : Int32) (a3 : Int32) (s : St), wX7_findPossiblePairs_17_b  P9 P a1 a2 a3 s Q → P a1 a2 a3 s) → P a1 a2 a3 s
def wX7_findPossiblePairs_9_b   (P9 : Int32 → Int32 → St → Prop) (a1 : Int32) (a2 : Int32) (s : St) (Q : (St → Prop)) : Prop :=
  (if (16 : Int32) ≤ a2 then Q s else wX7_findPossiblePairs_17  P9 a1 a2 (0 : Int32) s Q)
def wX7_findPossiblePairs_9   (a1 : Int32) (a2 : Int32) (s : St) (Q : (St → Prop)) : Prop := ∀ P : Int32 → Int32 → St → Prop, (∀ (a1 : Int32) (a2 : Int32) (s : St), wX7_findPossiblePairs_9_b   P a1 a2 s Q → P a1 a2 s) → P a1 a2 s
def wX7_findPossiblePairs (a1 : Int32) (s : St) (Q : (St → Prop)) : Prop :=
  wX3_forget  s (fun s2 => wX7_findPossiblePairs_9   a1 (0 : Int32) s2 Q)
def wX7_could (a1 : Int32) (s : St) (Q : (Int32 → St → Prop)) : Prop :=
  wX7_isDance a1 s (fun r1 s2 => (if r1 = 0 then Q (-1 : Int32) s2 else wX7_findPossiblePairs a1 s2 (fun s4 => wX3_mostOfAll  s4 (fun r5 s6 => Q r5 s6))))
def wX7_fill_25_b   (P25 : Int32 → Int32 → Int32 → St → Prop) (a1 : Int32) (a2 : Int32) (a3 : Int32) (s : St) (Q : (Int32 → St → Prop)) : Prop :=
  (if (16 : Int32) ≤ a3 then Q a2 s else (vp_in a3 16 ∧ (if (gA s 15 a3) = (-4 : Int32) then P25 a1 a2 (a3 + (1 : Int32)) s else wX0_join (gA s 15 a3) a3 a1 s (fun s8 => P25 a1 (a2 + (1 : Int32)) (a3 + (1 : Int32)) s8))))
def wX7_fill_25   (a1 : Int32) (a2 : Int32) (a3 : Int32) (s : St) (Q : (Int32 → St → Prop)) : Prop := ∀ P : Int32 → Int32 → Int32 → St → Prop, (∀ (a1 : Int32) (a2 : Int32) (a3 : Int32) (s : St), wX7_fill_25_b   P a1 a2 a3 s Q → P a1 a2 a3 s) → P a1 a2 a3 s
def wX7_fill (a1 : Int32) (s : St) (Q : (Int32 → St → Prop)) : Prop :=
  wX7_isDance a1 s (fun r1 s2 => (if r1 = 0 then Q (-1 : Int32) s2 else wX7_findPossiblePairs a1 s2 (fun s4 => wX3_chooseAll  s4 (fun s6 => wX7_fill_25   a1 (0 : Int32) (0 : Int32) s6 Q))))
def wX7_about (a1 : Int32) (a2 : Int32) (s : St) (Q : (Int32 → St → Prop)) : Prop :=
  wX2_isThere a1 s (fun r1 s2 => (if r1 = 0 then Q (-1 : Int32) s2 else (if a2 = 0 then wX0_pairedDances a1 s2 (fun r3 s4 => Q r3 s4) else (if a2 = 1 then wX0_others a1 s2 (fun r5 s6 => Q r5 s6) else (if a2 = 2 then wX0_longestRow a1 s2 (fun r7 s8 => Q r7 s8) else (if a2 = 3 then wX0_sittings a1 s2 (fun r9 s10 => Q r9 s10) else Q (-1 : Int32) s2))))))
def wX7_isSheet (a0 : Int32) (s : St) (Q : (Int32 → St → Prop)) : Prop :=
  wX7_isWithin a0 (0 : Int32) (3 : Int32) s (fun r1 s2 => (narrow .boolean (.int r1) = .int r1 ∧ Q r1 s2))
def wX7_isLane (a0 : Int32) (s : St) (Q : (Int32 → St → Prop)) : Prop :=
  wX7_isWithin a0 (0 : Int32) (2 : Int32) s (fun r1 s2 => (narrow .boolean (.int r1) = .int r1 ∧ Q r1 s2))
def wX7_sheet (a1 : Int32) (a2 : Int32) (a3 : Int32) (s : St) (Q : (Int32 → St → Prop)) : Prop :=
  wX7_isSheet a1 s (fun r1 s2 => (if r1 = 0 then Q (-1 : Int32) s2 else wX7_isLane a2 s2 (fun r3 s4 => (if r3 = 0 then Q (-1 : Int32) s4 else (if a3 ≤ (60 : Int32) then (if 0 ≤ a3 then wX4_renew a1 a2 a3 s4 (fun s6 => Q (1 : Int32) s6) else Q (-14 : Int32) s4) else Q (-1 : Int32) s4)))))
def wX7_lay (a1 : Int32) (a2 : Int32) (a3 : Int32) (s : St) (Q : (Int32 → St → Prop)) : Prop :=
  wX7_isSheet a1 s (fun r1 s2 => (if r1 = 0 then Q (-1 : Int32) s2 else wX4_isSomething a1 s2 (fun r3 s4 => (if r3 = 0 then Q (-11 : Int32) s4 else wX4_hasCells a1 a2 (1 : Int32) s4 (fun r5 s6 => (if r5 = 0 then Q (-12 : Int32) s6 else wX4_write a1 a2 a3 s6 (fun s8 => Q (1 : Int32) s8)))))))
def wX7_askFromSheet (a1 : Int32) (a2 : Int32) (s : St) (Q : (Int32 → St → Prop)) : Prop :=
  wX4_hasCells a1 a2 (3 : Int32) s (fun r1 s2 => (if r1 = 0 then Q (-22 : Int32) s2 else wX4_read a1 a2 s2 (fun r3 s4 => wX4_read a1 (a2 + (1 : Int32)) s4 (fun r5 s6 => wX4_read a1 (a2 + (2 : Int32)) s6 (fun r7 s8 => wX7_isAsking r3 r5 r7 s8 (fun r9 s10 => (if r9 = 0 then Q (-30 : Int32) s10 else wX7_reasonAgainst r3 r5 r7 s10 (fun r11 s12 => (if r11 = 0 then wX0_join r3 r5 r7 s12 (fun s14 => Q (1 : Int32) s14) else Q ((-30 : Int32) - r11) s12)))))))))
def wX7_takeBack_3_b   (P3 : Int32 → Int32 → Int32 → Int32 → St → Prop) (a1 : Int32) (a2 : Int32) (a3 : Int32) (a4 : Int32) (s : St) (Q : (St → Prop)) : Prop :=
  (if a3 ≤ a4 then Q s else wX4_read a1 (a2 + ((3 : Int32) * a4)) s (fun r1 s2 => wX4_read a1 ((a2 + ((3 : Int32) * a4)) + (1 : Int32)) s2 (fun r3 s4 => wX4_read a1 ((a2 + ((3 : Int32) * a4)) + (2 : Int32)) s4 (fun r5 s6 => wX0_separate r1 r3 r5 s6 (fun s8 => P3 a1 a2 a3 (a4 + (1 : Int32)) s8)))))
def wX7_takeBack_3   (a1 : Int32) (a2 : Int32) (a3 : Int32) (a4 : Int32) (s : St) (Q : (St → Prop)) : Prop := ∀ P : Int32 → Int32 → Int32 → Int32 → St → Prop, (∀ (a1 : Int32) (a2 : Int32) (a3 : Int32) (a4 : Int32) (s : St), wX7_takeBack_3_b   P a1 a2 a3 a4 s Q → P a1 a2 a3 a4 s) → P a1 a2 a3 a4 s
def wX7_takeBack (a1 : Int32) (a2 : Int32) (a3 : Int32) (s : St) (Q : (St → Prop)) : Prop :=
  wX7_takeBack_3   a1 a2 a3 (0 : Int32) s Q
def wX7_scan_60_b   (P60 : Int32 → Int32 → Int32 → Int32 → St → Prop) (a1 : Int32) (a3 : Int32) (a4 : Int32) (a5 : Int32) (s : St) (Q : (Int32 → St → Prop)) : Prop :=
  (if a4 ≤ a5 then Q a4 s else wX7_askFromSheet a1 (a3 + ((3 : Int32) * a5)) s (fun r9 s10 => (if 0 ≤ r9 then P60 a1 a3 a4 (a5 + (1 : Int32)) s10 else wX7_takeBack a1 a3 a5 s10 (fun s12 => Q r9 s12))))
def wX7_scan_60   (a1 : Int32) (a3 : Int32) (a4 : Int32) (a5 : Int32) (s : St) (Q : (Int32 → St → Prop)) : Prop := ∀ P : Int32 → Int32 → Int32 → Int32 → St → Prop, (∀ (a1 : Int32) (a3 : Int32) (a4 : Int32) (a5 : Int32) (s : St), wX7_scan_60_b   P a1 a3 a4 a5 s Q → P a1 a3 a4 a5 s) → P a1 a3 a4 a5 s
def wX7_scan (a1 : Int32) (a2 : Int32) (a3 : Int32) (a4 : Int32) (s : St) (Q : (Int32 → St → Prop)) : Prop :=
  wX7_isSheet a1 s (fun r1 s2 => (if r1 = 0 then Q (-1 : Int32) s2 else wX7_isLane a2 s2 (fun r3 s4 => (if r3 = 0 then Q (-1 : Int32) s4 else wX7_isWithin a4 (0 : Int32) (20 : Int32) s4 (fun r5 s6 => (if r5 = 0 then Q (-1 : Int32) s6 else wX4_isSomething a1 s6 (fun r7 s8 => (if r7 = 0 then Q (-21 : Int32) s8 else (vp_in a1 4 ∧ (if (gA s8 18 a1) = a2 then wX7_scan_60   a1 a3 a4 (0 : Int32) s8 Q else Q (-23 : Int32) s8))))))))))
def wX7_wish (a1 : Int32) (a2 : Int32) (a3 : Int32) (s : St) (Q : (Int32 → St → Prop)) : Prop :=
  wX2_isLady a1 s (fun r1 s2 => (if r1 = 0 then Q (-1 : Int32) s2 else wX2_isGentleman a2 s2 (fun r3 s4 => (if r3 = 0 then Q (-1 : Int32) s4 else wX7_isWithin a3 (0 : Int32) (4 : Int32) s4 (fun r5 s6 => (if r5 = 0 then Q (-1 : Int32) s6 else wX6_change a1 a2 a3 s6 (fun r7 s8 => Q r7 s8)))))))
def wX7_fewest  (s : St) (Q : (Int32 → St → Prop)) : Prop :=
  wX6_mostOfOne  s (fun r1 s2 => Q r1 s2)
def wX7_laid (a1 : Int32) (a2 : Int32) (s : St) (Q : (Int32 → St → Prop)) : Prop :=
  wX2_isThere a1 s (fun r1 s2 => (if r1 = 0 then Q (-1 : Int32) s2 else wX7_isWithin a2 (0 : Int32) (63 : Int32) s2 (fun r3 s4 => (if r3 = 0 then Q (-1 : Int32) s4 else wX6_partnerIn a1 a2 s4 (fun r5 s6 => Q r5 s6)))))
def wX7_groupDance_9_b   (P9 : Int32 → Int32 → St → Prop) (a1 : Int32) (a2 : Int32) (s : St) (Q : (Int32 → St → Prop)) : Prop :=
  (if (gF s 100) ≤ a2 then wX1_group  s (fun r3 s4 => Q r3 s4) else wX2_isLady a2 s (fun r5 s6 => (if r5 = 0 then P9 a1 (a2 + (1 : Int32)) s6 else wX0_isPaired a2 a1 s6 (fun r7 s8 => (if r7 = 0 then P9 a1 (a2 + (1 : Int32)) s8 else wX0_entry a2 a1 s8 (fun r9 s10 => wX2_bitsOf a2 r9 s10 (fun r11 s12 => wX2_foesOf a2 r9 s12 (fun r13 s14 => wX1_addCouple r11 r13 s14 (fun s16 => P9 a1 (a2 + (1 : Int32)) s16)))))))))
def wX7_groupDance_9   (a1 : Int32) (a2 : Int32) (s : St) (Q : (Int32 → St → Prop)) : Prop := ∀ P : Int32 → Int32 → St → Prop, (∀ (a1 : Int32) (a2 : Int32) (s : St), wX7_groupDance_9_b   P a1 a2 s Q → P a1 a2 s) → P a1 a2 s
def wX7_groupDance (a1 : Int32) (s : St) (Q : (Int32 → St → Prop)) : Prop :=
  wX1_forget  s (fun s2 => wX7_groupDance_9   a1 (0 : Int32) s2 Q)
def wX7_sets (a1 : Int32) (s : St) (Q : (Int32 → St → Prop)) : Prop :=
  wX7_isDance a1 s (fun r1 s2 => (if r1 = 0 then Q (-1 : Int32) s2 else wX7_groupDance a1 s2 (fun r3 s4 => Q r3 s4)))
def wX7_set (a1 : Int32) (a2 : Int32) (s : St) (Q : (Int32 → St → Prop)) : Prop :=
  wX2_isThere a1 s (fun r1 s2 => (if r1 = 0 then Q (-1 : Int32) s2 else wX7_isDance a2 s2 (fun r3 s4 => (if r3 = 0 then Q (-1 : Int32) s4 else wX7_groupDance a2 s4 (fun r5 s6 => wX1_groupOf a1 s6 (fun r7 s8 => Q r7 s8))))))
def wX7_count (a1 : Int32) (s : St) (Q : (Int32 → St → Prop)) : Prop :=
  (if a1 = 0 then Q (gF s 100) s else (if a1 = 1 then wX2_ladies  s (fun r1 s2 => Q r1 s2) else (if a1 = 2 then wX0_couples  s (fun r3 s4 => Q r3 s4) else (if a1 = 3 then wX5_toldCustoms  s (fun r5 s6 => Q r5 s6) else (if a1 = 4 then wX2_illOnes  s (fun r7 s8 => Q r7 s8) else (if a1 = 5 then wX2_knownPairs  s (fun r9 s10 => Q r9 s10) else (if a1 = 6 then (vp_in (0 : Int32) 4 ∧ Q (gA s 19 (0 : Int32)) s) else (if a1 = 7 then Q (gF s 701) s else Q (-1 : Int32) s))))))))
def wX8_in (a0 : Int64) (a2 : Int64) (a4 : Int64) (s : St) (Q : (Int32 → St → Prop)) : Prop :=
  (if (lg_cmp a0 a2) < 0 then Q (0 : Int32) s else (if 0 < (lg_cmp a0 a4) then Q (0 : Int32) s else Q (1 : Int32) s))
def wX8_person_48_b   (P48 : Int32 → St → Prop) (a3 : Int32) (s : St) (Q : (Int32 → St → Prop)) : Prop :=
  (if (24 : Int32) ≤ a3 then Q ((gF (stF s 3000 ((gF s 3000) + (1 : Int32))) 3000) - (1 : Int32)) (stF s 3000 ((gF s 3000) + (1 : Int32))) else (vp_in (((24 : Int32) * (gF s 3000)) + a3) 384 ∧ P48 (a3 + (1 : Int32)) (stA s 37 (((24 : Int32) * (gF s 3000)) + a3) (-4 : Int32))))
def wX8_person_48   (a3 : Int32) (s : St) (Q : (Int32 → St → Prop)) : Prop := ∀ P : Int32 → St → Prop, (∀ (a3 : Int32) (s : St), wX8_person_48_b   P a3 s Q → P a3 s) → P a3 s
def wX8_person (a1 : Int32) (a2 : Int32) (s : St) (Q : (Int32 → St → Prop)) : Prop :=
  wX8_in ((a2).toInt64) (0 : Int64) (9 : Int64) s (fun r1 s2 => (if r1 = 0 then Q (-1 : Int32) s2 else (if (gF s2 3000) = (16 : Int32) then Q (-3 : Int32) s2 else (vp_in (gF s2 3000) 16 ∧ (vp_in (gF (stA s2 31 (gF s2 3000) (vp_nar .boolean a1)) 3000) 16 ∧ wX8_person_48   (0 : Int32) (stA (stA s2 31 (gF s2 3000) (vp_nar .boolean a1)) 32 (gF (stA s2 31 (gF s2 3000) (vp_nar .boolean a1)) 3000) a2) Q)))))
def wX8_is (a1 : Int32) (s : St) (Q : (Int32 → St → Prop)) : Prop :=
  wX8_in ((a1).toInt64) (0 : Int64) ((((gF s 3000) - (1 : Int32))).toInt64) s (fun r1 s2 => (narrow .boolean (.int r1) = .int r1 ∧ Q r1 s2))
def wX8_areTwo (a1 : Int32) (a2 : Int32) (s : St) (Q : (Int32 → St → Prop)) : Prop :=
  wX8_is a1 s (fun r1 s2 => (if r1 = 0 then Q (0 : Int32) s2 else wX8_is a2 s2 (fun r3 s4 => (if r3 = 0 then Q (0 : Int32) s4 else (if a1 = a2 then Q (0 : Int32) s4 else Q (1 : Int32) s4)))))
def wX8_doKnow (a1 : Int32) (a2 : Int32) (s : St) (Q : (Int32 → St → Prop)) : Prop :=
  (vp_in (((16 : Int32) * a1) + a2) 256 ∧ (narrow .boolean (.int (gA s 34 (((16 : Int32) * a1) + a2))) = .int (gA s 34 (((16 : Int32) * a1) + a2)) ∧ Q (gA s 34 (((16 : Int32) * a1) + a2)) s))
def wX8_introduce_71   (a2 : Int32) (a3 : Int32) (s : St) (Q : (Int32 → St → Prop)) : Prop :=
  (vp_in (((16 : Int32) * a2) + a3) 256 ∧ (vp_in (((16 : Int32) * a3) + a2) 256 ∧ Q (1 : Int32) (stA (stA s 34 (((16 : Int32) * a2) + a3) (vp_nar .boolean (1 : Int32))) 34 (((16 : Int32) * a3) + a2) (vp_nar .boolean (1 : Int32)))))
def wX8_introduce_35   (a1 : Int32) (a2 : Int32) (a3 : Int32) (s : St) (Q : (Int32 → St → Prop)) : Prop :=
  wX8_doKnow a2 a3 s (fun r3 s4 => (if r3 = 0 then (if a1 = (-4 : Int32) then wX8_introduce_71   a2 a3 s4 Q else wX8_doKnow a1 a2 s4 (fun r5 s6 => (if r5 = 0 then Q (-2 : Int32) s6 else wX8_doKnow a1 a3 s6 (fun r7 s8 => (if r7 = 0 then Q (-2 : Int32) s8 else wX8_introduce_71   a2 a3 s8 Q))))) else Q (-2 : Int32) s4))
def wX8_introduce (a1 : Int32) (a2 : Int32) (a3 : Int32) (s : St) (Q : (Int32 → St → Prop)) : Prop :=
  wX8_areTwo a2 a3 s (fun r1 s2 => (if r1 = 0 then Q (-1 : Int32) s2 else (if a1 = (-4 : Int32) then wX8_introduce_35   a1 a2 a3 s2 Q else wX8_is a1 s2 (fun r9 s10 => (if r9 = 0 then Q (-1 : Int32) s10 else (if a1 = a2 then Q (-1 : Int32) s10 else (if a1 = a3 then Q (-1 : Int32) s10 else wX8_introduce_35   a1 a2 a3 s10 Q)))))))
def wX8_feud_30   (a1 : Int32) (a2 : Int32) (a3 : Int32) (t0 : Int32) (s : St) (Q : (Int32 → St → Prop)) : Prop :=
  (vp_in (((16 : Int32) * a1) + a2) 256 ∧ (vp_in (((16 : Int32) * a2) + a1) 256 ∧ Q t0 (stA (stA s 35 (((16 : Int32) * a1) + a2) (vp_nar .boolean a3)) 35 (((16 : Int32) * a2) + a1) (vp_nar .boolean a3))))
def wX8_feud (a1 : Int32) (a2 : Int32) (a3 : Int32) (s : St) (Q : (Int32 → St → Prop)) : Prop :=
  wX8_areTwo a1 a2 s (fun r1 s2 => (if r1 = 0 then Q (-1 : Int32) s2 else (vp_in (((16 : Int32) * a1) + a2) 256 ∧ (if (gA s2 35 (((16 : Int32) * a1) + a2)) = 0 then wX8_feud_30   a1 a2 a3 (0 : Int32) s2 Q else wX8_feud_30   a1 a2 a3 (1 : Int32) s2 Q))))
def wX8_knows (a1 : Int32) (a2 : Int32) (s : St) (Q : (Int32 → St → Prop)) : Prop :=
  wX8_is a1 s (fun r1 s2 => (if r1 = 0 then Q (-1 : Int32) s2 else wX8_is a2 s2 (fun r3 s4 => (if r3 = 0 then Q (-1 : Int32) s4 else wX8_doKnow a1 a2 s4 (fun r5 s6 => (if r5 = 0 then Q (0 : Int32) s6 else Q (1 : Int32) s6))))))
def wX8_feed_18_b   (P18 : Int64 → Int32 → St → Prop) (a1 : Int64) (a3 : Int32) (s : St) (Q : (Int32 → St → Prop)) : Prop :=
  (if a3 < 0 then Q (gF s 3009) s else (vp_in (gF s 3009) 100 ∧ P18 a1 (a3 + (-8 : Int32)) (stF (stA s 38 (gF s 3009) ((((a1 >>> ((a3).toInt64 &&& 63))).toInt32) &&& (255 : Int32))) 3009 ((gF (stA s 38 (gF s 3009) ((((a1 >>> ((a3).toInt64 &&& 63))).toInt32) &&& (255 : Int32))) 3009) + (1 : Int32)))))
def wX8_feed_18   (a1 : Int64) (a3 : Int32) (s : St) (Q : (Int32 → St → Prop)) : Prop := ∀ P : Int64 → Int32 → St → Prop, (∀ (a1 : Int64) (a3 : Int32) (s : St), wX8_feed_18_b   P a1 a3 s Q → P a1 a3 s) → P a1 a3 s
def wX8_feed (a1 : Int64) (s : St) (Q : (Int32 → St → Prop)) : Prop :=
  (if ((gF s 3009) + (8 : Int32)) ≤ (100 : Int32) then wX8_feed_18   a1 (56 : Int32) s Q else Q (-3 : Int32) s)
def wX8_end (a1 : Int32) (s : St) (Q : (Int32 → St → Prop)) : Prop :=
  wX8_in ((a1).toInt64) (0 : Int64) (((gF s 3009)).toInt64) s (fun r1 s2 => (if r1 = 0 then Q (-1 : Int32) s2 else Q (gF s2 3009) (stF s2 3009 a1)))
def wX8_byteAt (a1 : Int32) (s : St) (Q : (Int32 → St → Prop)) : Prop :=
  (if (gF s 3009) ≤ a1 then Q (-4 : Int32) s else (vp_in a1 100 ∧ Q (gA s 38 a1) s))
def wX8_fails (a1 : Int32) (s : St) (Q : (St → Prop)) : Prop :=
  (if (gF s 3017) = 0 then Q (stF (stF s 3017 a1) 3018 (gF (stF s 3017 a1) 3014)) else Q s)
def wX8_nameOf (a0 : Int64) (s : St) (Q : (Int32 → St → Prop)) : Prop :=
  (if (lg_cmp a0 (1885432178 : Int64)) = 0 then Q (0 : Int32) s else (if (lg_cmp a0 (1918987883 : Int64)) = 0 then Q (1 : Int32) s else (if (lg_cmp a0 (7499639 : Int64)) = 0 then Q (2 : Int32) s else (if (lg_cmp a0 (126948234782066 : Int64)) = 0 then Q (3 : Int32) s else Q (-4 : Int32) s))))
def wX8_next_277  (P216 : St → Prop) (t0 : Int32) (s : St) (Q : (St → Prop)) : Prop :=
  P216  (stF (stF s 3016 t0) 3013 ((gF (stF s 3016 t0) 3013) + (1 : Int32)))
def wX8_next_216_b   (P216 : St → Prop)  (s : St) (Q : (St → Prop)) : Prop :=
  wX8_byteAt (gF s 3013) s (fun r11 s12 => wX8_in ((r11).toInt64) (48 : Int64) (57 : Int64) s12 (fun r13 s14 => (if r13 = 0 then (if ((gF (stF s14 3015 (2 : Int32)) 3013) - (gF (stF s14 3015 (2 : Int32)) 3014)) ≤ (3 : Int32) then Q (stF s14 3015 (2 : Int32)) else wX8_fails (1 : Int32) (stF s14 3015 (2 : Int32)) (fun s16 => Q s16)) else (if (3 : Int32) ≤ ((gF s14 3013) - (gF s14 3014)) then wX8_next_277  P216 (gF s14 3016) s14 Q else wX8_byteAt (gF s14 3013) s14 (fun r17 s18 => wX8_next_277  P216 ((((10 : Int32) * (gF s14 3016)) + r17) - (48 : Int32)) s18 Q)))))
def wX8_next_216    (s : St) (Q : (St → Prop)) : Prop := ∀ P : St → Prop, (∀  (s : St), wX8_next_216_b   P  s Q → P  s) → P  s
def wX8_next_177   (t0 : Int32) (s : St) (Q : (St → Prop)) : Prop :=
  (if (gF (stF s 3016 t0) 3016) = (-4 : Int32) then wX8_fails (1 : Int32) (stF s 3016 t0) (fun s26 => Q s26) else Q (stF s 3016 t0))
def wX8_next_134  (P81 : Int64 → St → Prop) (t0 : Int64) (s : St) (Q : (St → Prop)) : Prop :=
  P81 t0 (stF s 3013 ((gF s 3013) + (1 : Int32)))
def wX8_next_81_b   (P81 : Int64 → St → Prop) (a2 : Int64) (s : St) (Q : (St → Prop)) : Prop :=
  wX8_byteAt (gF s 3013) s (fun r19 s20 => wX8_in ((r19).toInt64) (97 : Int64) (122 : Int64) s20 (fun r21 s22 => (if r21 = 0 then (if ((gF (stF s22 3015 (1 : Int32)) 3013) - (gF (stF s22 3015 (1 : Int32)) 3014)) ≤ (7 : Int32) then wX8_nameOf a2 (stF s22 3015 (1 : Int32)) (fun r23 s24 => wX8_next_177   r23 s24 Q) else wX8_next_177   (-4 : Int32) (stF s22 3015 (1 : Int32)) Q) else (if (7 : Int32) ≤ ((gF s22 3013) - (gF s22 3014)) then wX8_next_134  P81 (0 : Int64) s22 Q else wX8_byteAt (gF s22 3013) s22 (fun r27 s28 => wX8_next_134  P81 ((a2 <<< (((8 : Int32)).toInt64 &&& 63)) ||| ((r27).toInt64)) s28 Q)))))
def wX8_next_81   (a2 : Int64) (s : St) (Q : (St → Prop)) : Prop := ∀ P : Int64 → St → Prop, (∀ (a2 : Int64) (s : St), wX8_next_81_b   P a2 s Q → P a2 s) → P a2 s
def wX8_next_8_b   (P8 : St → Prop)  (s : St) (Q : (St → Prop)) : Prop :=
  wX8_byteAt (gF s 3013) s (fun r1 s2 => (if r1 = (32 : Int32) then P8  (stF s2 3013 ((gF s2 3013) + (1 : Int32))) else wX8_byteAt (gF (stF s2 3014 (gF s2 3013)) 3013) (stF s2 3014 (gF s2 3013)) (fun r3 s4 => (if r3 = (-4 : Int32) then Q (stF s4 3015 (0 : Int32)) else wX8_in ((r3).toInt64) (97 : Int64) (122 : Int64) s4 (fun r5 s6 => (if r5 = 0 then wX8_in ((r3).toInt64) (48 : Int64) (57 : Int64) s6 (fun r7 s8 => (if r7 = 0 then (if r3 = (59 : Int32) then Q (stF (stF s8 3013 ((gF s8 3013) + (1 : Int32))) 3015 (3 : Int32)) else wX8_fails (1 : Int32) s8 (fun s10 => Q s10)) else wX8_next_216    (stF s8 3016 (0 : Int32)) Q)) else wX8_next_81   (0 : Int64) s6 Q))))))
def wX8_next_8    (s : St) (Q : (St → Prop)) : Prop := ∀ P : St → Prop, (∀  (s : St), wX8_next_8_b   P  s Q → P  s) → P  s
def wX8_next  (s : St) (Q : (St → Prop)) : Prop :=
  (if (gF s 3017) ≤ 0 then wX8_next_8    s Q else Q s)
def wX8_wants (a1 : Int32) (s : St) (Q : (St → Prop)) : Prop :=
  (if (gF s 3015) = a1 then Q s else wX8_fails (2 : Int32) s (fun s2 => Q s2))
def wX8_custom_141    (s : St) (Q : (St → Prop)) : Prop :=
  wX8_next  s (fun s12 => Q s12)
def wX8_custom_125    (s : St) (Q : (St → Prop)) : Prop :=
  wX8_next  s (fun s10 => (if (gF s10 3017) = 0 then wX8_wants (3 : Int32) s10 (fun s14 => wX8_custom_141    s14 Q) else wX8_custom_141    s10 Q))
def wX8_custom_108   (a1 : Int32) (s : St) (Q : (St → Prop)) : Prop :=
  (if (gF s 3017) = 0 then (vp_in a1 4 ∧ wX8_custom_125    (stA s 40 a1 (gF s 3016)) Q) else wX8_custom_125    s Q)
def wX8_custom_87   (a1 : Int32) (a2 : Int32) (t0 : Int32) (s : St) (Q : (St → Prop)) : Prop :=
  wX8_in (((gF s 3016)).toInt64) ((a2).toInt64) ((t0).toInt64) s (fun r7 s8 => (if r7 = 0 then wX8_fails (3 : Int32) s8 (fun s16 => wX8_custom_108   a1 s16 Q) else wX8_custom_108   a1 s8 Q))
def wX8_custom_64   (a1 : Int32) (t0 : Int32) (s : St) (Q : (St → Prop)) : Prop :=
  (if a1 = (1 : Int32) then wX8_custom_87   a1 t0 (9 : Int32) s Q else (if a1 = (3 : Int32) then wX8_custom_87   a1 t0 (23 : Int32) s Q else wX8_custom_87   a1 t0 (24 : Int32) s Q))
def wX8_custom_59   (a1 : Int32) (s : St) (Q : (St → Prop)) : Prop :=
  wX8_custom_64   a1 (1 : Int32) s Q
def wX8_custom_33   (a1 : Int32) (s : St) (Q : (St → Prop)) : Prop :=
  wX8_next  s (fun s4 => (if (gF s4 3017) ≤ 0 then wX8_wants (2 : Int32) s4 (fun s6 => (if a1 = 0 then wX8_custom_59   a1 s6 Q else (if a1 = (2 : Int32) then wX8_custom_59   a1 s6 Q else wX8_custom_64   a1 (0 : Int32) s6 Q))) else Q s4))
def wX8_custom  (s : St) (Q : (St → Prop)) : Prop :=
  wX8_wants (1 : Int32) s (fun s2 => (if (gF s2 3017) = 0 then (vp_in (gF s2 3016) 4 ∧ (if (gA s2 40 (gF s2 3016)) = (-4 : Int32) then wX8_custom_33   (gF s2 3016) s2 Q else wX8_fails (4 : Int32) s2 (fun s18 => wX8_custom_33   (gF s2 3016) s18 Q))) else wX8_custom_33   (gF s2 3016) s2 Q))
def wX8_customs_88_b   (P88 : Int32 → Int32 → St → Prop) (a1 : Int32) (a2 : Int32) (s : St) (Q : (Int32 → St → Prop)) : Prop :=
  (if (4 : Int32) ≤ a2 then Q a1 s else (vp_in a2 4 ∧ (vp_in a2 4 ∧ (vp_in a2 4 ∧ (if (gA (stA s 39 a2 (gA s 40 a2)) 39 a2) = (-4 : Int32) then P88 (a1 + (0 : Int32)) (a2 + (1 : Int32)) (stA s 39 a2 (gA s 40 a2)) else P88 (a1 + (1 : Int32)) (a2 + (1 : Int32)) (stA s 39 a2 (gA s 40 a2)))))))
def wX8_customs_88   (a1 : Int32) (a2 : Int32) (s : St) (Q : (Int32 → St → Prop)) : Prop := ∀ P : Int32 → Int32 → St → Prop, (∀ (a1 : Int32) (a2 : Int32) (s : St), wX8_customs_88_b   P a1 a2 s Q → P a1 a2 s) → P a1 a2 s
def wX8_customs_56    (s : St) (Q : (Int32 → St → Prop)) : Prop :=
  (if (gF (stF (stF s 3009 (0 : Int32)) 3010 (gF (stF s 3009 (0 : Int32)) 3017)) 3017) ≤ 0 then wX8_customs_88   (0 : Int32) (0 : Int32) (stF (stF s 3009 (0 : Int32)) 3010 (gF (stF s 3009 (0 : Int32)) 3017)) Q else Q ((-10 : Int32) - (gF (stF (stF s 3009 (0 : Int32)) 3010 (gF (stF s 3009 (0 : Int32)) 3017)) 3018)) (stF (stF s 3009 (0 : Int32)) 3010 (gF (stF s 3009 (0 : Int32)) 3017)))
def wX8_customs_35_b   (P35 : St → Prop)  (s : St) (Q : (Int32 → St → Prop)) : Prop :=
  (if (gF s 3017) = 0 then (if (gF s 3015) = 0 then wX8_customs_56    s Q else wX8_custom  s (fun s4 => P35  s4)) else wX8_customs_56    s Q)
def wX8_customs_35    (s : St) (Q : (Int32 → St → Prop)) : Prop := ∀ P : St → Prop, (∀  (s : St), wX8_customs_35_b   P  s Q → P  s) → P  s
def wX8_customs_12_b   (P12 : Int32 → St → Prop) (a1 : Int32) (s : St) (Q : (Int32 → St → Prop)) : Prop :=
  (if (4 : Int32) ≤ a1 then wX8_next  s (fun s2 => wX8_customs_35    s2 Q) else (vp_in a1 4 ∧ P12 (a1 + (1 : Int32)) (stA s 40 a1 (-4 : Int32))))
def wX8_customs_12   (a1 : Int32) (s : St) (Q : (Int32 → St → Prop)) : Prop := ∀ P : Int32 → St → Prop, (∀ (a1 : Int32) (s : St), wX8_customs_12_b   P a1 s Q → P a1 s) → P a1 s
def wX8_customs  (s : St) (Q : (Int32 → St → Prop)) : Prop :=
  wX8_customs_12   (0 : Int32) (stF (stF s 3017 (0 : Int32)) 3013 (0 : Int32)) Q
def wX8_fault  (s : St) (Q : (Int32 → St → Prop)) : Prop :=
  Q (gF s 3010) s
def wX8_custom_ (a1 : Int32) (s : St) (Q : (Int32 → St → Prop)) : Prop :=
  wX8_in ((a1).toInt64) (0 : Int64) (3 : Int64) s (fun r1 s2 => (if r1 = 0 then Q (-1 : Int32) s2 else (vp_in a1 4 ∧ Q (gA s2 39 a1) s2)))
def wX8_cardOf (a1 : Int32) (a2 : Int32) (s : St) (Q : (Int32 → St → Prop)) : Prop :=
  (vp_in (((24 : Int32) * a1) + a2) 384 ∧ Q (gA s 37 (((24 : Int32) * a1) + a2)) s)
def wX8_write (a1 : Int32) (a2 : Int32) (a3 : Int32) (s : St) (Q : (St → Prop)) : Prop :=
  (vp_in (((24 : Int32) * a1) + a2) 384 ∧ Q (stA s 37 (((24 : Int32) * a1) + a2) a3))
def wX8_hasPartner (a1 : Int32) (a2 : Int32) (s : St) (Q : (Int32 → St → Prop)) : Prop :=
  wX8_in ((a2).toInt64) (0 : Int64) (23 : Int64) s (fun r1 s2 => (if r1 = 0 then Q (0 : Int32) s2 else wX8_cardOf a1 a2 s2 (fun r3 s4 => (if r3 < 0 then Q (0 : Int32) s4 else Q (1 : Int32) s4))))
def wX8_together_5_b   (P5 : Int32 → Int32 → Int32 → Int32 → St → Prop) (a1 : Int32) (a2 : Int32) (a3 : Int32) (a4 : Int32) (s : St) (Q : (Int32 → St → Prop)) : Prop :=
  (if (24 : Int32) ≤ a4 then Q a3 s else wX8_cardOf a1 a4 s (fun r1 s2 => (if r1 = a2 then P5 a1 a2 (a3 + (1 : Int32)) (a4 + (1 : Int32)) s2 else P5 a1 a2 (a3 + (0 : Int32)) (a4 + (1 : Int32)) s2)))
def wX8_together_5   (a1 : Int32) (a2 : Int32) (a3 : Int32) (a4 : Int32) (s : St) (Q : (Int32 → St → Prop)) : Prop := ∀ P : Int32 → Int32 → Int32 → Int32 → St → Prop, (∀ (a1 : Int32) (a2 : Int32) (a3 : Int32) (a4 : Int32) (s : St), wX8_together_5_b   P a1 a2 a3 a4 s Q → P a1 a2 a3 a4 s) → P a1 a2 a3 a4 s
def wX8_together (a1 : Int32) (a2 : Int32) (s : St) (Q : (Int32 → St → Prop)) : Prop :=
  wX8_together_5   a1 a2 (0 : Int32) (0 : Int32) s Q
def wX8_runWith_31_b   (P31 : Int32 → Int32 → Int32 → St → Prop) (a1 : Int32) (a3 : Int32) (a4 : Int32) (s : St) (Q : (Int32 → St → Prop)) : Prop :=
  wX8_hasPartner a1 a4 s (fun r3 s4 => (if r3 = 0 then Q a3 s4 else P31 a1 (a3 + (1 : Int32)) (a4 + (1 : Int32)) s4))
def wX8_runWith_31   (a1 : Int32) (a3 : Int32) (a4 : Int32) (s : St) (Q : (Int32 → St → Prop)) : Prop := ∀ P : Int32 → Int32 → Int32 → St → Prop, (∀ (a1 : Int32) (a3 : Int32) (a4 : Int32) (s : St), wX8_runWith_31_b   P a1 a3 a4 s Q → P a1 a3 a4 s) → P a1 a3 a4 s
def wX8_runWith_7_b   (P7 : Int32 → Int32 → Int32 → Int32 → St → Prop) (a1 : Int32) (a2 : Int32) (a3 : Int32) (a4 : Int32) (s : St) (Q : (Int32 → St → Prop)) : Prop :=
  wX8_hasPartner a1 a4 s (fun r1 s2 => (if r1 = 0 then wX8_runWith_31   a1 a3 (a2 + (1 : Int32)) s2 Q else P7 a1 a2 (a3 + (1 : Int32)) (a4 + (-1 : Int32)) s2))
def wX8_runWith_7   (a1 : Int32) (a2 : Int32) (a3 : Int32) (a4 : Int32) (s : St) (Q : (Int32 → St → Prop)) : Prop := ∀ P : Int32 → Int32 → Int32 → Int32 → St → Prop, (∀ (a1 : Int32) (a2 : Int32) (a3 : Int32) (a4 : Int32) (s : St), wX8_runWith_7_b   P a1 a2 a3 a4 s Q → P a1 a2 a3 a4 s) → P a1 a2 a3 a4 s
def wX8_runWith (a1 : Int32) (a2 : Int32) (s : St) (Q : (Int32 → St → Prop)) : Prop :=
  wX8_runWith_7   a1 a2 (1 : Int32) (a2 - (1 : Int32)) s Q
def wX8_whyNot_218   (a3 : Int32) (a5 : Int32) (s : St) (Q : (Int32 → St → Prop)) : Prop :=
  (vp_in (3 : Int32) 4 ∧ (if (gA s 39 (3 : Int32)) = a3 then (if a5 = 0 then Q (8 : Int32) s else Q (0 : Int32) s) else Q (0 : Int32) s))
def wX8_whyNot_174   (a1 : Int32) (a2 : Int32) (a3 : Int32) (a5 : Int32) (s : St) (Q : (Int32 → St → Prop)) : Prop :=
  (vp_in (2 : Int32) 4 ∧ (if (gA s 39 (2 : Int32)) = (-4 : Int32) then wX8_whyNot_218   a3 a5 s Q else wX8_runWith a1 a3 s (fun r9 s10 => (vp_in (2 : Int32) 4 ∧ (if (gA s10 39 (2 : Int32)) < r9 then Q (7 : Int32) s10 else wX8_runWith a2 a3 s10 (fun r11 s12 => (vp_in (2 : Int32) 4 ∧ (if r11 ≤ (gA s12 39 (2 : Int32)) then wX8_whyNot_218   a3 a5 s12 Q else Q (7 : Int32) s12))))))))
def wX8_whyNot_125   (a1 : Int32) (a2 : Int32) (a3 : Int32) (a5 : Int32) (s : St) (Q : (Int32 → St → Prop)) : Prop :=
  wX8_cardOf a1 a3 s (fun r5 s6 => (if r5 = (-4 : Int32) then wX8_cardOf a2 a3 s6 (fun r7 s8 => (if r7 = (-4 : Int32) then (vp_in (0 : Int32) 4 ∧ (if (gA s8 39 (0 : Int32)) = (-4 : Int32) then wX8_whyNot_174   a1 a2 a3 a5 s8 Q else (vp_in (0 : Int32) 4 ∧ (if a5 < (gA s8 39 (0 : Int32)) then wX8_whyNot_174   a1 a2 a3 a5 s8 Q else Q (6 : Int32) s8)))) else Q (5 : Int32) s8)) else Q (5 : Int32) s6))
def wX8_whyNot_44   (a1 : Int32) (a2 : Int32) (a3 : Int32) (t0 : Int32) (s : St) (Q : (Int32 → St → Prop)) : Prop :=
  wX8_together a1 a2 s (fun r1 s2 => (vp_in a1 16 ∧ (if (gA s2 33 a1) = 0 then (vp_in a2 16 ∧ (if (gA s2 33 a2) = 0 then wX8_doKnow a1 a2 s2 (fun r3 s4 => (if r3 = 0 then Q (2 : Int32) s4 else (vp_in (((16 : Int32) * a1) + a2) 256 ∧ (if (gA s4 35 (((16 : Int32) * a1) + a2)) = 0 then (vp_in (1 : Int32) 4 ∧ (if (gA s4 39 (1 : Int32)) = (-4 : Int32) then wX8_whyNot_125   a1 a2 a3 r1 s4 Q else (vp_in (1 : Int32) 4 ∧ (if t0 ≤ (gA s4 39 (1 : Int32)) then wX8_whyNot_125   a1 a2 a3 r1 s4 Q else Q (4 : Int32) s4)))) else Q (3 : Int32) s4)))) else Q (1 : Int32) s2)) else Q (1 : Int32) s2)))
def wX8_whyNot (a1 : Int32) (a2 : Int32) (a3 : Int32) (s : St) (Q : (Int32 → St → Prop)) : Prop :=
  (vp_in a1 16 ∧ (vp_in a2 16 ∧ (if (gA s 32 a1) ≤ (gA s 32 a2) then (vp_in a2 16 ∧ (vp_in a1 16 ∧ wX8_whyNot_44   a1 a2 a3 ((gA s 32 a2) - (gA s 32 a1)) s Q)) else (vp_in a1 16 ∧ (vp_in a2 16 ∧ wX8_whyNot_44   a1 a2 a3 ((gA s 32 a1) - (gA s 32 a2)) s Q)))))
def wX8_areCouple (a1 : Int32) (a2 : Int32) (a3 : Int32) (s : St) (Q : (Int32 → St → Prop)) : Prop :=
  wX8_is a1 s (fun r1 s2 => (if r1 = 0 then Q (0 : Int32) s2 else (vp_in a1 16 ∧ (if (gA s2 31 a1) = 0 then wX8_is a2 s2 (fun r3 s4 => (if r3 = 0 then Q (0 : Int32) s4 else (vp_in a2 16 ∧ (if (gA s4 31 a2) = 0 then Q (0 : Int32) s4 else wX8_in ((a3).toInt64) (0 : Int64) (23 : Int64) s4 (fun r5 s6 => (if r5 = 0 then Q (0 : Int32) s6 else Q (1 : Int32) s6)))))) else Q (0 : Int32) s2))))
def wX8_couple (a1 : Int32) (a2 : Int32) (a3 : Int32) (s : St) (Q : (St → Prop)) : Prop :=
  wX8_write a1 a3 a2 s (fun s2 => wX8_write a2 a3 a1 s2 (fun s4 => Q s4))
def wX8_uncouple (a1 : Int32) (a2 : Int32) (a3 : Int32) (s : St) (Q : (St → Prop)) : Prop :=
  wX8_write a1 a3 (-4 : Int32) s (fun s2 => wX8_write a2 a3 (-4 : Int32) s2 (fun s4 => Q s4))
def wX8_ask (a1 : Int32) (a2 : Int32) (a3 : Int32) (s : St) (Q : (Int32 → St → Prop)) : Prop :=
  wX8_areCouple a1 a2 a3 s (fun r1 s2 => (if r1 = 0 then Q (-1 : Int32) s2 else wX8_whyNot a1 a2 a3 s2 (fun r3 s4 => (if r3 ≤ 0 then wX8_couple a1 a2 a3 s4 (fun s6 => Q (1 : Int32) s6) else Q ((-10 : Int32) - r3) s4))))
def wX8_why (a1 : Int32) (a2 : Int32) (a3 : Int32) (s : St) (Q : (Int32 → St → Prop)) : Prop :=
  wX8_areCouple a1 a2 a3 s (fun r1 s2 => (if r1 = 0 then Q (-1 : Int32) s2 else wX8_whyNot a1 a2 a3 s2 (fun r3 s4 => Q r3 s4)))
def wX8_refuse (a1 : Int32) (a2 : Int32) (a3 : Int32) (s : St) (Q : (Int32 → St → Prop)) : Prop :=
  wX8_areCouple a2 a1 a3 s (fun r1 s2 => (if r1 = 0 then Q (-1 : Int32) s2 else wX8_whyNot a2 a1 a3 s2 (fun r3 s4 => (if r3 ≤ 0 then wX8_write a1 a3 (-5 : Int32) s4 (fun s6 => Q (1 : Int32) s6) else Q ((-10 : Int32) - r3) s4))))
def wX8_part (a1 : Int32) (a2 : Int32) (a3 : Int32) (s : St) (Q : (Int32 → St → Prop)) : Prop :=
  wX8_areCouple a1 a2 a3 s (fun r1 s2 => (if r1 = 0 then Q (-1 : Int32) s2 else wX8_cardOf a1 a3 s2 (fun r3 s4 => (if r3 = a2 then wX8_uncouple a1 a2 a3 s4 (fun s6 => Q (1 : Int32) s6) else Q (-2 : Int32) s4))))
def wX8_swap_148   (a3 : Int32) (a6 : Int32) (t0 : Int32) (t1 : Int32) (s : St) (Q : (Int32 → St → Prop)) : Prop :=
  wX8_couple t1 t0 a3 s (fun s20 => (if a6 ≤ 0 then Q (1 : Int32) s20 else Q ((-10 : Int32) - a6) s20))
def wX8_swap_130   (a2 : Int32) (a3 : Int32) (a4 : Int32) (a5 : Int32) (a6 : Int32) (t0 : Int32) (t1 : Int32) (s : St) (Q : (Int32 → St → Prop)) : Prop :=
  wX8_couple t1 t0 a3 s (fun s18 => (if a6 ≤ 0 then wX8_swap_148   a3 a6 a4 a2 s18 Q else wX8_swap_148   a3 a6 a5 a2 s18 Q))
def wX8_swap_114   (a1 : Int32) (a2 : Int32) (a3 : Int32) (a4 : Int32) (a5 : Int32) (t0 : Int32) (s : St) (Q : (Int32 → St → Prop)) : Prop :=
  (if t0 ≤ 0 then wX8_swap_130   a2 a3 a4 a5 t0 a5 a1 s Q else wX8_swap_130   a2 a3 a4 a5 t0 a4 a1 s Q)
def wX8_swap (a1 : Int32) (a2 : Int32) (a3 : Int32) (s : St) (Q : (Int32 → St → Prop)) : Prop :=
  wX8_areTwo a1 a2 s (fun r1 s2 => (if r1 = 0 then Q (-1 : Int32) s2 else (vp_in a1 16 ∧ (if (gA s2 31 a1) = 0 then (vp_in a2 16 ∧ (if (gA s2 31 a2) = 0 then wX8_in ((a3).toInt64) (0 : Int64) (23 : Int64) s2 (fun r3 s4 => (if r3 = 0 then Q (-1 : Int32) s4 else wX8_cardOf a1 a3 s4 (fun r5 s6 => wX8_cardOf a2 a3 s6 (fun r7 s8 => (if r5 < 0 then Q (-2 : Int32) s8 else (if 0 ≤ r7 then wX8_uncouple a1 r5 a3 s8 (fun s10 => wX8_uncouple a2 r7 a3 s10 (fun s12 => wX8_whyNot a1 r7 a3 s12 (fun r13 s14 => (if r13 ≤ 0 then wX8_whyNot a2 r5 a3 s14 (fun r15 s16 => wX8_swap_114   a1 a2 a3 r5 r7 r15 s16 Q) else wX8_swap_114   a1 a2 a3 r5 r7 r13 s14 Q)))) else Q (-2 : Int32) s8)))))) else Q (-1 : Int32) s2)) else Q (-1 : Int32) s2))))
def wX8_card (a1 : Int32) (a2 : Int32) (s : St) (Q : (Int32 → St → Prop)) : Prop :=
  wX8_is a1 s (fun r1 s2 => (if r1 = 0 then Q (-1 : Int32) s2 else wX8_in ((a2).toInt64) (0 : Int64) (23 : Int64) s2 (fun r3 s4 => (if r3 = 0 then Q (-1 : Int32) s4 else wX8_cardOf a1 a2 s4 (fun r5 s6 => Q r5 s6)))))
def wX8_ill_33_b   (P33 : Int32 → Int32 → Int32 → St → Prop) (a1 : Int32) (a2 : Int32) (a3 : Int32) (s : St) (Q : (Int32 → St → Prop)) : Prop :=
  (if (24 : Int32) ≤ a3 then Q a2 s else wX8_cardOf a1 a3 s (fun r3 s4 => (if r3 < 0 then P33 a1 a2 (a3 + (1 : Int32)) s4 else wX8_cardOf a1 a3 s4 (fun r5 s6 => wX8_uncouple a1 r5 a3 s6 (fun s8 => P33 a1 (a2 + (1 : Int32)) (a3 + (1 : Int32)) s8)))))
def wX8_ill_33   (a1 : Int32) (a2 : Int32) (a3 : Int32) (s : St) (Q : (Int32 → St → Prop)) : Prop := ∀ P : Int32 → Int32 → Int32 → St → Prop, (∀ (a1 : Int32) (a2 : Int32) (a3 : Int32) (s : St), wX8_ill_33_b   P a1 a2 a3 s Q → P a1 a2 a3 s) → P a1 a2 a3 s
def wX8_ill (a1 : Int32) (s : St) (Q : (Int32 → St → Prop)) : Prop :=
  wX8_is a1 s (fun r1 s2 => (if r1 = 0 then Q (-1 : Int32) s2 else (vp_in a1 16 ∧ (if (gA s2 33 a1) = 0 then (vp_in a1 16 ∧ wX8_ill_33   a1 (0 : Int32) (0 : Int32) (stA s2 33 a1 (vp_nar .boolean (1 : Int32))) Q) else Q (-2 : Int32) s2))))
def wX8_well (a1 : Int32) (s : St) (Q : (Int32 → St → Prop)) : Prop :=
  wX8_is a1 s (fun r1 s2 => (if r1 = 0 then Q (-1 : Int32) s2 else (vp_in a1 16 ∧ (if (gA s2 33 a1) = 0 then Q (-2 : Int32) s2 else (vp_in a1 16 ∧ Q (1 : Int32) (stA s2 33 a1 (vp_nar .boolean (0 : Int32))))))))
def wX8_layDance_25_b  (P2 : Int32 → Int32 → St → Prop) (P25 : Int32 → Int32 → Int32 → St → Prop) (a1 : Int32) (a2 : Int32) (a3 : Int32) (s : St) (Q : (St → Prop)) : Prop :=
  (if (16 : Int32) ≤ a3 then P2 a1 (a2 + (1 : Int32)) s else wX8_areCouple a3 a2 a1 s (fun r1 s2 => (if r1 = 0 then (vp_in (((16 : Int32) * a2) + a3) 256 ∧ P25 a1 a2 (a3 + (1 : Int32)) (stA s2 41 (((16 : Int32) * a2) + a3) (vp_nar .boolean (0 : Int32)))) else wX8_whyNot a3 a2 a1 s2 (fun r3 s4 => (if r3 = 0 then (vp_in (((16 : Int32) * a2) + a3) 256 ∧ P25 a1 a2 (a3 + (1 : Int32)) (stA s4 41 (((16 : Int32) * a2) + a3) (vp_nar .boolean (1 : Int32)))) else (vp_in (((16 : Int32) * a2) + a3) 256 ∧ P25 a1 a2 (a3 + (1 : Int32)) (stA s4 41 (((16 : Int32) * a2) + a3) (vp_nar .boolean (0 : Int32)))))))))
def wX8_layDance_25  (P2 : Int32 → Int32 → St → Prop) (a1 : Int32) (a2 : Int32) (a3 : Int32) (s : St) (Q : (St → Prop)) : Prop := ∀ P : Int32 → Int32 → Int32 → St → Prop, (∀ (a1 : Int32) (a2 : Int32) (a3 : Int32) (s : St), wX8_layDance_25_b  P2 P a1 a2 a3 s Q → P a1 a2 a3 s) → P a1 a2 a3 s
def wX8_layDance_2_b   (P2 : Int32 → Int32 → St → Prop) (a1 : Int32) (a2 : Int32) (s : St) (Q : (St → Prop)) : Prop :=
  (if (16 : Int32) ≤ a2 then Q s else (vp_in a2 16 ∧ (vp_in a2 16 ∧ wX8_layDance_25  P2 a1 a2 (0 : Int32) (stA (stA s 42 a2 (-4 : Int32)) 43 a2 (vp_nar .boolean (0 : Int32))) Q)))
def wX8_layDance_2   (a1 : Int32) (a2 : Int32) (s : St) (Q : (St → Prop)) : Prop := ∀ P : Int32 → Int32 → St → Prop, (∀ (a1 : Int32) (a2 : Int32) (s : St), wX8_layDance_2_b   P a1 a2 s Q → P a1 a2 s) → P a1 a2 s
def wX8_layDance (a1 : Int32) (s : St) (Q : (St → Prop)) : Prop :=
  wX8_layDance_2   a1 (0 : Int32) s Q
def wX8_change_5_b   (P5 : Int32 → Int32 → Int32 → St → Prop) (a1 : Int32) (a3 : Int32) (a4 : Int32) (s : St) (Q : (St → Prop)) : Prop :=
  (if a4 = 0 then Q s else (vp_in a3 16 ∧ (vp_in (gA s 45 a3) 16 ∧ (vp_in a3 16 ∧ (vp_in (gA s 45 a3) 16 ∧ (if (gA s 45 a3) = a1 then P5 a1 (gA s 42 (gA s 45 a3)) (0 : Int32) (stA (stA s 42 a3 (gA s 45 a3)) 42 (gA s 45 a3) a3) else P5 a1 (gA s 42 (gA s 45 a3)) (1 : Int32) (stA (stA s 42 a3 (gA s 45 a3)) 42 (gA s 45 a3) a3)))))))
def wX8_change_5   (a1 : Int32) (a3 : Int32) (a4 : Int32) (s : St) (Q : (St → Prop)) : Prop := ∀ P : Int32 → Int32 → Int32 → St → Prop, (∀ (a1 : Int32) (a3 : Int32) (a4 : Int32) (s : St), wX8_change_5_b   P a1 a3 a4 s Q → P a1 a3 a4 s) → P a1 a3 a4 s
def wX8_change (a1 : Int32) (a2 : Int32) (s : St) (Q : (St → Prop)) : Prop :=
  wX8_change_5   a1 a2 (1 : Int32) s Q
def wX8_gets_49_b  (P33 : Int32 → Int32 → Int32 → St → Prop) (P49 : Int32 → Int32 → Int32 → Int32 → Int32 → St → Prop) (a1 : Int32) (a2 : Int32) (a3 : Int32) (a4 : Int32) (a5 : Int32) (s : St) (Q : (Int32 → St → Prop)) : Prop :=
  (if (gF s 3000) ≤ a5 then P33 a1 a2 (a3 + (1 : Int32)) s else (vp_in (((16 : Int32) * a4) + a5) 256 ∧ (if (gA s 41 (((16 : Int32) * a4) + a5)) = 0 then P49 a1 a2 a3 a4 (a5 + (1 : Int32)) s else (vp_in a5 16 ∧ (if (gA s 45 a5) = (-4 : Int32) then (vp_in a5 16 ∧ (if (gA s 43 a5) = 0 then (vp_in a5 16 ∧ (vp_in a5 16 ∧ (if (gA (stA s 45 a5 a4) 42 a5) = (-4 : Int32) then wX8_change a1 a5 (stA s 45 a5 a4) (fun s2 => Q (1 : Int32) s2) else (vp_in a5 16 ∧ (vp_in a2 16 ∧ P49 a1 (a2 + (1 : Int32)) a3 a4 (a5 + (1 : Int32)) (stA (stA s 45 a5 a4) 44 a2 (gA (stA s 45 a5 a4) 42 a5))))))) else P49 a1 a2 a3 a4 (a5 + (1 : Int32)) s)) else P49 a1 a2 a3 a4 (a5 + (1 : Int32)) s)))))
def wX8_gets_49  (P33 : Int32 → Int32 → Int32 → St → Prop) (a1 : Int32) (a2 : Int32) (a3 : Int32) (a4 : Int32) (a5 : Int32) (s : St) (Q : (Int32 → St → Prop)) : Prop := ∀ P : Int32 → Int32 → Int32 → Int32 → Int32 → St → Prop, (∀ (a1 : Int32) (a2 : Int32) (a3 : Int32) (a4 : Int32) (a5 : Int32) (s : St), wX8_gets_49_b  P33 P a1 a2 a3 a4 a5 s Q → P a1 a2 a3 a4 a5 s) → P a1 a2 a3 a4 a5 s
def wX8_gets_33_b   (P33 : Int32 → Int32 → Int32 → St → Prop) (a1 : Int32) (a2 : Int32) (a3 : Int32) (s : St) (Q : (Int32 → St → Prop)) : Prop :=
  (if a2 ≤ a3 then Q (0 : Int32) s else (vp_in a3 16 ∧ wX8_gets_49  P33 a1 a2 a3 (gA s 44 a3) (0 : Int32) s Q))
def wX8_gets_33   (a1 : Int32) (a2 : Int32) (a3 : Int32) (s : St) (Q : (Int32 → St → Prop)) : Prop := ∀ P : Int32 → Int32 → Int32 → St → Prop, (∀ (a1 : Int32) (a2 : Int32) (a3 : Int32) (s : St), wX8_gets_33_b   P a1 a2 a3 s Q → P a1 a2 a3 s) → P a1 a2 a3 s
def wX8_gets_2_b   (P2 : Int32 → Int32 → St → Prop) (a1 : Int32) (a2 : Int32) (s : St) (Q : (Int32 → St → Prop)) : Prop :=
  (if (16 : Int32) ≤ a2 then (vp_in (0 : Int32) 16 ∧ wX8_gets_33   a1 (1 : Int32) (0 : Int32) (stA s 44 (0 : Int32) a1) Q) else (vp_in a2 16 ∧ P2 a1 (a2 + (1 : Int32)) (stA s 45 a2 (-4 : Int32))))
def wX8_gets_2   (a1 : Int32) (a2 : Int32) (s : St) (Q : (Int32 → St → Prop)) : Prop := ∀ P : Int32 → Int32 → St → Prop, (∀ (a1 : Int32) (a2 : Int32) (s : St), wX8_gets_2_b   P a1 a2 s Q → P a1 a2 s) → P a1 a2 s
def wX8_gets (a1 : Int32) (s : St) (Q : (Int32 → St → Prop)) : Prop :=
  wX8_gets_2   a1 (0 : Int32) s Q
def wX8_mostFrom_4_b   (P4 : Int32 → Int32 → St → Prop) (a2 : Int32) (a3 : Int32) (s : St) (Q : (Int32 → St → Prop)) : Prop :=
  (if (gF s 3000) ≤ a3 then Q a2 s else (vp_in a3 16 ∧ (if (gA s 31 a3) = 0 then P4 (a2 + (0 : Int32)) (a3 + (1 : Int32)) s else wX8_gets a3 s (fun r1 s2 => (if r1 = 0 then P4 (a2 + (0 : Int32)) (a3 + (1 : Int32)) s2 else P4 (a2 + (1 : Int32)) (a3 + (1 : Int32)) s2)))))
def wX8_mostFrom_4   (a2 : Int32) (a3 : Int32) (s : St) (Q : (Int32 → St → Prop)) : Prop := ∀ P : Int32 → Int32 → St → Prop, (∀ (a2 : Int32) (a3 : Int32) (s : St), wX8_mostFrom_4_b   P a2 a3 s Q → P a2 a3 s) → P a2 a3 s
def wX8_mostFrom (a1 : Int32) (s : St) (Q : (Int32 → St → Prop)) : Prop :=
  wX8_mostFrom_4   (0 : Int32) a1 s Q
def wX8_could (a1 : Int32) (s : St) (Q : (Int32 → St → Prop)) : Prop :=
  wX8_in ((a1).toInt64) (0 : Int64) (23 : Int64) s (fun r1 s2 => (if r1 = 0 then Q (-1 : Int32) s2 else wX8_layDance a1 s2 (fun s4 => wX8_mostFrom (0 : Int32) s4 (fun r5 s6 => Q r5 s6))))
def wX8_loosen_2_b   (P2 : Int32 → St → Prop) (a1 : Int32) (s : St) (Q : (St → Prop)) : Prop :=
  (if (16 : Int32) ≤ a1 then Q s else (vp_in a1 16 ∧ (if (gA s 43 a1) = 0 then (vp_in a1 16 ∧ P2 (a1 + (1 : Int32)) (stA s 42 a1 (-4 : Int32))) else (vp_in a1 16 ∧ (vp_in a1 16 ∧ P2 (a1 + (1 : Int32)) (stA s 42 a1 (gA s 42 a1)))))))
def wX8_loosen_2   (a1 : Int32) (s : St) (Q : (St → Prop)) : Prop := ∀ P : Int32 → St → Prop, (∀ (a1 : Int32) (s : St), wX8_loosen_2_b   P a1 s Q → P a1 s) → P a1 s
def wX8_loosen  (s : St) (Q : (St → Prop)) : Prop :=
  wX8_loosen_2   (0 : Int32) s Q
def wX8_fix_29   (a1 : Int32) (a2 : Int32) (a3 : Int32) (t0 : Int32) (t1 : Int32) (s : St) (Q : (St → Prop)) : Prop :=
  (vp_in t1 16 ∧ (if a3 = 0 then (vp_in a2 16 ∧ Q (stA (stA s 42 t1 t0) 42 a2 (-4 : Int32))) else (vp_in a2 16 ∧ Q (stA (stA s 42 t1 t0) 42 a2 a1))))
def wX8_fix (a1 : Int32) (a2 : Int32) (a3 : Int32) (s : St) (Q : (St → Prop)) : Prop :=
  (vp_in a1 16 ∧ (vp_in a2 16 ∧ (if a3 = 0 then wX8_fix_29   a1 a2 a3 (-4 : Int32) a1 (stA (stA s 43 a1 (vp_nar .boolean a3)) 43 a2 (vp_nar .boolean a3)) Q else wX8_fix_29   a1 a2 a3 a2 a1 (stA (stA s 43 a1 (vp_nar .boolean a3)) 43 a2 (vp_nar .boolean a3)) Q)))
def wX8_fill_174_b   (P174 : Int32 → Int32 → Int32 → St → Prop) (a1 : Int32) (a3 : Int32) (a4 : Int32) (s : St) (Q : (Int32 → St → Prop)) : Prop :=
  (if (gF s 3000) ≤ a4 then Q a3 s else (vp_in a4 16 ∧ (if (gA s 31 a4) = 0 then P174 a1 a3 (a4 + (1 : Int32)) s else (vp_in a4 16 ∧ (if (gA s 42 a4) = (-4 : Int32) then P174 a1 a3 (a4 + (1 : Int32)) s else (vp_in a4 16 ∧ wX8_couple (gA s 42 a4) a4 a1 s (fun s10 => P174 a1 a3 (a4 + (1 : Int32)) s10)))))))
def wX8_fill_174   (a1 : Int32) (a3 : Int32) (a4 : Int32) (s : St) (Q : (Int32 → St → Prop)) : Prop := ∀ P : Int32 → Int32 → Int32 → St → Prop, (∀ (a1 : Int32) (a3 : Int32) (a4 : Int32) (s : St), wX8_fill_174_b   P a1 a3 a4 s Q → P a1 a3 a4 s) → P a1 a3 a4 s
def wX8_fill_133  (P30 : Int32 → Int32 → Int32 → Int32 → St → Prop) (P59 : Int32 → Int32 → Int32 → Int32 → Int32 → Int32 → St → Prop) (a1 : Int32) (a2 : Int32) (a3 : Int32) (a4 : Int32) (a6 : Int32) (t0 : Int32) (s : St) (Q : (Int32 → St → Prop)) : Prop :=
  (if t0 = 0 then wX8_fix a4 a6 (0 : Int32) s (fun s18 => P59 a1 a2 a3 a4 t0 (a6 + (1 : Int32)) s18) else P59 a1 a2 (a3 + (1 : Int32)) a4 t0 (a6 + (1 : Int32)) s)
def wX8_fill_59_b  (P30 : Int32 → Int32 → Int32 → Int32 → St → Prop) (P59 : Int32 → Int32 → Int32 → Int32 → Int32 → Int32 → St → Prop) (a1 : Int32) (a2 : Int32) (a3 : Int32) (a4 : Int32) (a5 : Int32) (a6 : Int32) (s : St) (Q : (Int32 → St → Prop)) : Prop :=
  (if (gF s 3000) ≤ a6 then P30 a1 a2 a3 (a4 + (1 : Int32)) s else (if a5 = 0 then (vp_in (((16 : Int32) * a4) + a6) 256 ∧ (if (gA s 41 (((16 : Int32) * a4) + a6)) = 0 then P59 a1 a2 a3 a4 a5 (a6 + (1 : Int32)) s else (vp_in a6 16 ∧ (if (gA s 43 a6) = 0 then wX8_loosen  s (fun s12 => wX8_fix a4 a6 (1 : Int32) s12 (fun s14 => wX8_mostFrom (a4 + (1 : Int32)) s14 (fun r15 s16 => (if ((a3 + (1 : Int32)) + r15) = a2 then wX8_fill_133  P30 P59 a1 a2 a3 a4 a6 (1 : Int32) s16 Q else wX8_fill_133  P30 P59 a1 a2 a3 a4 a6 (0 : Int32) s16 Q)))) else P59 a1 a2 a3 a4 a5 (a6 + (1 : Int32)) s)))) else P30 a1 a2 a3 (a4 + (1 : Int32)) s))
def wX8_fill_59  (P30 : Int32 → Int32 → Int32 → Int32 → St → Prop) (a1 : Int32) (a2 : Int32) (a3 : Int32) (a4 : Int32) (a5 : Int32) (a6 : Int32) (s : St) (Q : (Int32 → St → Prop)) : Prop := ∀ P : Int32 → Int32 → Int32 → Int32 → Int32 → Int32 → St → Prop, (∀ (a1 : Int32) (a2 : Int32) (a3 : Int32) (a4 : Int32) (a5 : Int32) (a6 : Int32) (s : St), wX8_fill_59_b  P30 P a1 a2 a3 a4 a5 a6 s Q → P a1 a2 a3 a4 a5 a6 s) → P a1 a2 a3 a4 a5 a6 s
def wX8_fill_30_b   (P30 : Int32 → Int32 → Int32 → Int32 → St → Prop) (a1 : Int32) (a2 : Int32) (a3 : Int32) (a4 : Int32) (s : St) (Q : (Int32 → St → Prop)) : Prop :=
  (if (gF s 3000) ≤ a4 then wX8_loosen  s (fun s8 => wX8_fill_174   a1 a3 (0 : Int32) s8 Q) else (vp_in a4 16 ∧ (if (gA s 31 a4) = 0 then wX8_fill_59  P30 a1 a2 a3 a4 (1 : Int32) (0 : Int32) s Q else wX8_fill_59  P30 a1 a2 a3 a4 (0 : Int32) (0 : Int32) s Q)))
def wX8_fill_30   (a1 : Int32) (a2 : Int32) (a3 : Int32) (a4 : Int32) (s : St) (Q : (Int32 → St → Prop)) : Prop := ∀ P : Int32 → Int32 → Int32 → Int32 → St → Prop, (∀ (a1 : Int32) (a2 : Int32) (a3 : Int32) (a4 : Int32) (s : St), wX8_fill_30_b   P a1 a2 a3 a4 s Q → P a1 a2 a3 a4 s) → P a1 a2 a3 a4 s
def wX8_fill (a1 : Int32) (s : St) (Q : (Int32 → St → Prop)) : Prop :=
  wX8_in ((a1).toInt64) (0 : Int64) (23 : Int64) s (fun r1 s2 => (if r1 = 0 then Q (-1 : Int32) s2 else wX8_layDance a1 s2 (fun s4 => wX8_mostFrom (0 : Int32) s4 (fun r5 s6 => wX8_fill_30   a1 r5 (0 : Int32) (0 : Int32) s6 Q))))
def wX8_about_125_b   (P125 : Int32 → Int32 → Int32 → Int32 → Int32 → Int32 → Int32 → St → Prop) (a1 : Int32) (a2 : Int32) (a3 : Int32) (a4 : Int32) (a6 : Int32) (a7 : Int32) (a8 : Int32) (s : St) (Q : (Int32 → St → Prop)) : Prop :=
  (if (gF s 3000) ≤ a8 then (if a2 = 0 then Q a3 s else (if a2 = (1 : Int32) then Q a7 s else (if a2 = (2 : Int32) then Q a6 s else Q a4 s))) else (if a8 = a1 then P125 a1 a2 a3 a4 a6 (a7 + (0 : Int32)) (a8 + (1 : Int32)) s else wX8_together a1 a8 s (fun r5 s6 => (if r5 ≤ 0 then P125 a1 a2 a3 a4 a6 (a7 + (0 : Int32)) (a8 + (1 : Int32)) s6 else P125 a1 a2 a3 a4 a6 (a7 + (1 : Int32)) (a8 + (1 : Int32)) s6))))
def wX8_about_125   (a1 : Int32) (a2 : Int32) (a3 : Int32) (a4 : Int32) (a6 : Int32) (a7 : Int32) (a8 : Int32) (s : St) (Q : (Int32 → St → Prop)) : Prop := ∀ P : Int32 → Int32 → Int32 → Int32 → Int32 → Int32 → Int32 → St → Prop, (∀ (a1 : Int32) (a2 : Int32) (a3 : Int32) (a4 : Int32) (a6 : Int32) (a7 : Int32) (a8 : Int32) (s : St), wX8_about_125_b   P a1 a2 a3 a4 a6 a7 a8 s Q → P a1 a2 a3 a4 a6 a7 a8 s) → P a1 a2 a3 a4 a6 a7 a8 s
def wX8_about_98  (P39 : Int32 → Int32 → Int32 → Int32 → Int32 → Int32 → Int32 → Int32 → St → Prop) (a1 : Int32) (a2 : Int32) (a3 : Int32) (a4 : Int32) (a6 : Int32) (a7 : Int32) (a8 : Int32) (t0 : Int32) (s : St) (Q : (Int32 → St → Prop)) : Prop :=
  (if t0 ≤ a6 then P39 a1 a2 a3 a4 t0 a6 a7 (a8 + (1 : Int32)) s else P39 a1 a2 a3 a4 t0 t0 a7 (a8 + (1 : Int32)) s)
def wX8_about_82  (P39 : Int32 → Int32 → Int32 → Int32 → Int32 → Int32 → Int32 → Int32 → St → Prop) (a1 : Int32) (a2 : Int32) (a3 : Int32) (a5 : Int32) (a6 : Int32) (a7 : Int32) (a8 : Int32) (a9 : Int32) (t0 : Int32) (t1 : Int32) (s : St) (Q : (Int32 → St → Prop)) : Prop :=
  (if a9 < 0 then wX8_about_98  P39 a1 a2 a3 (t1 + t0) a6 a7 a8 (0 : Int32) s Q else wX8_about_98  P39 a1 a2 a3 (t1 + t0) a6 a7 a8 (a5 + (1 : Int32)) s Q)
def wX8_about_66  (P39 : Int32 → Int32 → Int32 → Int32 → Int32 → Int32 → Int32 → Int32 → St → Prop) (a1 : Int32) (a2 : Int32) (a4 : Int32) (a5 : Int32) (a6 : Int32) (a7 : Int32) (a8 : Int32) (a9 : Int32) (t0 : Int32) (t1 : Int32) (s : St) (Q : (Int32 → St → Prop)) : Prop :=
  (if a9 = (-5 : Int32) then wX8_about_82  P39 a1 a2 (t1 + t0) a5 a6 a7 a8 a9 (1 : Int32) a4 s Q else wX8_about_82  P39 a1 a2 (t1 + t0) a5 a6 a7 a8 a9 (0 : Int32) a4 s Q)
def wX8_about_39_b   (P39 : Int32 → Int32 → Int32 → Int32 → Int32 → Int32 → Int32 → Int32 → St → Prop) (a1 : Int32) (a2 : Int32) (a3 : Int32) (a4 : Int32) (a5 : Int32) (a6 : Int32) (a7 : Int32) (a8 : Int32) (s : St) (Q : (Int32 → St → Prop)) : Prop :=
  (if (24 : Int32) ≤ a8 then wX8_about_125   a1 a2 a3 a4 a6 a7 (0 : Int32) s Q else wX8_cardOf a1 a8 s (fun r7 s8 => (if r7 < 0 then wX8_about_66  P39 a1 a2 a4 a5 a6 a7 a8 r7 (0 : Int32) a3 s8 Q else wX8_about_66  P39 a1 a2 a4 a5 a6 a7 a8 r7 (1 : Int32) a3 s8 Q)))
def wX8_about_39   (a1 : Int32) (a2 : Int32) (a3 : Int32) (a4 : Int32) (a5 : Int32) (a6 : Int32) (a7 : Int32) (a8 : Int32) (s : St) (Q : (Int32 → St → Prop)) : Prop := ∀ P : Int32 → Int32 → Int32 → Int32 → Int32 → Int32 → Int32 → Int32 → St → Prop, (∀ (a1 : Int32) (a2 : Int32) (a3 : Int32) (a4 : Int32) (a5 : Int32) (a6 : Int32) (a7 : Int32) (a8 : Int32) (s : St), wX8_about_39_b   P a1 a2 a3 a4 a5 a6 a7 a8 s Q → P a1 a2 a3 a4 a5 a6 a7 a8 s) → P a1 a2 a3 a4 a5 a6 a7 a8 s
def wX8_about (a1 : Int32) (a2 : Int32) (s : St) (Q : (Int32 → St → Prop)) : Prop :=
  wX8_is a1 s (fun r1 s2 => (if r1 = 0 then Q (-1 : Int32) s2 else wX8_in ((a2).toInt64) (0 : Int64) (3 : Int64) s2 (fun r3 s4 => (if r3 = 0 then Q (-1 : Int32) s4 else wX8_about_39   a1 a2 (0 : Int32) (0 : Int32) (0 : Int32) (0 : Int32) (0 : Int32) (0 : Int32) s4 Q))))
def wX8_sheet_56_b   (P56 : Int32 → Int32 → St → Prop) (a1 : Int32) (a4 : Int32) (s : St) (Q : (Int32 → St → Prop)) : Prop :=
  (if (60 : Int32) ≤ a4 then Q (1 : Int32) s else (vp_in (((60 : Int32) * a1) + a4) 240 ∧ P56 a1 (a4 + (1 : Int32)) (stA s 48 (((60 : Int32) * a1) + a4) (0 : Int32))))
def wX8_sheet_56   (a1 : Int32) (a4 : Int32) (s : St) (Q : (Int32 → St → Prop)) : Prop := ∀ P : Int32 → Int32 → St → Prop, (∀ (a1 : Int32) (a4 : Int32) (s : St), wX8_sheet_56_b   P a1 a4 s Q → P a1 a4 s) → P a1 a4 s
def wX8_sheet (a1 : Int32) (a2 : Int32) (a3 : Int32) (s : St) (Q : (Int32 → St → Prop)) : Prop :=
  wX8_in ((a1).toInt64) (0 : Int64) (3 : Int64) s (fun r1 s2 => (if r1 = 0 then Q (-1 : Int32) s2 else wX8_in ((a2).toInt64) (0 : Int64) (2 : Int64) s2 (fun r3 s4 => (if r3 = 0 then Q (-1 : Int32) s4 else (if a3 ≤ (60 : Int32) then (if 0 ≤ a3 then (vp_in a1 4 ∧ (vp_in a1 4 ∧ wX8_sheet_56   a1 (0 : Int32) (stA (stA s4 46 a1 a2) 47 a1 a3) Q)) else Q (-14 : Int32) s4) else Q (-1 : Int32) s4)))))
def wX8_lay (a1 : Int32) (a2 : Int32) (a3 : Int32) (s : St) (Q : (Int32 → St → Prop)) : Prop :=
  wX8_in ((a1).toInt64) (0 : Int64) (3 : Int64) s (fun r1 s2 => (if r1 = 0 then Q (-1 : Int32) s2 else (vp_in a1 4 ∧ (if (gA s2 46 a1) = (-4 : Int32) then Q (-11 : Int32) s2 else (vp_in a1 4 ∧ wX8_in ((a2).toInt64) (0 : Int64) ((((gA s2 47 a1) - (1 : Int32))).toInt64) s2 (fun r3 s4 => (if r3 = 0 then Q (-12 : Int32) s4 else (vp_in a1 4 ∧ (if (gA s4 46 a1) = 0 then (vp_in (((60 : Int32) * a1) + a2) 240 ∧ Q (1 : Int32) (stA s4 48 (((60 : Int32) * a1) + a2) ((a3 <<< ((24 : Int32) &&& 31)) >>> ((24 : Int32) &&& 31)))) else (vp_in a1 4 ∧ (if (gA s4 46 a1) = (1 : Int32) then (vp_in (((60 : Int32) * a1) + a2) 240 ∧ Q (1 : Int32) (stA s4 48 (((60 : Int32) * a1) + a2) ((a3 <<< ((16 : Int32) &&& 31)) >>> ((16 : Int32) &&& 31)))) else (vp_in (((60 : Int32) * a1) + a2) 240 ∧ Q (1 : Int32) (stA s4 48 (((60 : Int32) * a1) + a2) a3)))))))))))))
def wX8_scan_278   (a4 : Int32) (a5 : Int32) (s : St) (Q : (Int32 → St → Prop)) : Prop :=
  (if 0 ≤ a5 then Q a4 s else Q a5 s)
def wX8_scan_218_b   (P218 : Int32 → Int32 → Int32 → Int32 → Int32 → Int32 → St → Prop) (a1 : Int32) (a3 : Int32) (a4 : Int32) (a5 : Int32) (a6 : Int32) (a7 : Int32) (s : St) (Q : (Int32 → St → Prop)) : Prop :=
  (if a6 ≤ a7 then wX8_scan_278   a4 a5 s Q else (if 0 ≤ a5 then wX8_scan_278   a4 a5 s Q else (vp_in ((((60 : Int32) * a1) + a3) + ((3 : Int32) * a7)) 240 ∧ (vp_in (((((60 : Int32) * a1) + a3) + ((3 : Int32) * a7)) + (1 : Int32)) 240 ∧ (vp_in (((((60 : Int32) * a1) + a3) + ((3 : Int32) * a7)) + (2 : Int32)) 240 ∧ wX8_uncouple (gA s 48 ((((60 : Int32) * a1) + a3) + ((3 : Int32) * a7))) (gA s 48 (((((60 : Int32) * a1) + a3) + ((3 : Int32) * a7)) + (1 : Int32))) (gA s 48 (((((60 : Int32) * a1) + a3) + ((3 : Int32) * a7)) + (2 : Int32))) s (fun s8 => P218 a1 a3 a4 a5 a6 (a7 + (1 : Int32)) s8))))))
def wX8_scan_218   (a1 : Int32) (a3 : Int32) (a4 : Int32) (a5 : Int32) (a6 : Int32) (a7 : Int32) (s : St) (Q : (Int32 → St → Prop)) : Prop := ∀ P : Int32 → Int32 → Int32 → Int32 → Int32 → Int32 → St → Prop, (∀ (a1 : Int32) (a3 : Int32) (a4 : Int32) (a5 : Int32) (a6 : Int32) (a7 : Int32) (s : St), wX8_scan_218_b   P a1 a3 a4 a5 a6 a7 s Q → P a1 a3 a4 a5 a6 a7 s) → P a1 a3 a4 a5 a6 a7 s
def wX8_scan_191  (P77 : Int32 → Int32 → Int32 → Int32 → Int32 → Int32 → St → Prop) (a1 : Int32) (a3 : Int32) (a4 : Int32) (a6 : Int32) (a7 : Int32) (a11 : Int32) (t0 : Int32) (s : St) (Q : (Int32 → St → Prop)) : Prop :=
  (if a11 = (1 : Int32) then P77 a1 a3 a4 t0 (a6 + (1 : Int32)) (a7 + (1 : Int32)) s else P77 a1 a3 a4 t0 (a6 + (0 : Int32)) (a7 + (1 : Int32)) s)
def wX8_scan_77_b   (P77 : Int32 → Int32 → Int32 → Int32 → Int32 → Int32 → St → Prop) (a1 : Int32) (a3 : Int32) (a4 : Int32) (a5 : Int32) (a6 : Int32) (a7 : Int32) (s : St) (Q : (Int32 → St → Prop)) : Prop :=
  (if a4 ≤ a7 then wX8_scan_218   a1 a3 a4 a5 a6 (0 : Int32) s Q else (if a5 = 0 then (vp_in a1 4 ∧ wX8_in (((a3).toInt64) + ((((3 : Int32) * a7)).toInt64)) (0 : Int64) ((((gA s 47 a1) - (3 : Int32))).toInt64) s (fun r9 s10 => (if r9 = 0 then P77 a1 a3 a4 (-22 : Int32) a6 (a7 + (1 : Int32)) s10 else (vp_in (((60 : Int32) * a1) + (((((a3).toInt64) + ((((3 : Int32) * a7)).toInt64))).toInt32)) 240 ∧ (vp_in ((((60 : Int32) * a1) + (((((a3).toInt64) + ((((3 : Int32) * a7)).toInt64))).toInt32)) + (1 : Int32)) 240 ∧ (vp_in ((((60 : Int32) * a1) + (((((a3).toInt64) + ((((3 : Int32) * a7)).toInt64))).toInt32)) + (2 : Int32)) 240 ∧ wX8_ask (gA s10 48 (((60 : Int32) * a1) + (((((a3).toInt64) + ((((3 : Int32) * a7)).toInt64))).toInt32))) (gA s10 48 ((((60 : Int32) * a1) + (((((a3).toInt64) + ((((3 : Int32) * a7)).toInt64))).toInt32)) + (1 : Int32))) (gA s10 48 ((((60 : Int32) * a1) + (((((a3).toInt64) + ((((3 : Int32) * a7)).toInt64))).toInt32)) + (2 : Int32))) s10 (fun r11 s12 => (if r11 = (1 : Int32) then wX8_scan_191  P77 a1 a3 a4 a6 a7 r11 (0 : Int32) s12 Q else (if r11 = (-1 : Int32) then wX8_scan_191  P77 a1 a3 a4 a6 a7 r11 (-30 : Int32) s12 Q else wX8_scan_191  P77 a1 a3 a4 a6 a7 r11 ((-20 : Int32) + r11) s12 Q))))))))) else wX8_scan_218   a1 a3 a4 a5 a6 (0 : Int32) s Q))
def wX8_scan_77   (a1 : Int32) (a3 : Int32) (a4 : Int32) (a5 : Int32) (a6 : Int32) (a7 : Int32) (s : St) (Q : (Int32 → St → Prop)) : Prop := ∀ P : Int32 → Int32 → Int32 → Int32 → Int32 → Int32 → St → Prop, (∀ (a1 : Int32) (a3 : Int32) (a4 : Int32) (a5 : Int32) (a6 : Int32) (a7 : Int32) (s : St), wX8_scan_77_b   P a1 a3 a4 a5 a6 a7 s Q → P a1 a3 a4 a5 a6 a7 s) → P a1 a3 a4 a5 a6 a7 s
def wX8_scan (a1 : Int32) (a2 : Int32) (a3 : Int32) (a4 : Int32) (s : St) (Q : (Int32 → St → Prop)) : Prop :=
  wX8_in ((a1).toInt64) (0 : Int64) (3 : Int64) s (fun r1 s2 => (if r1 = 0 then Q (-1 : Int32) s2 else wX8_in ((a2).toInt64) (0 : Int64) (2 : Int64) s2 (fun r3 s4 => (if r3 = 0 then Q (-1 : Int32) s4 else wX8_in ((a4).toInt64) (0 : Int64) (20 : Int64) s4 (fun r5 s6 => (if r5 = 0 then Q (-1 : Int32) s6 else (vp_in a1 4 ∧ (if (gA s6 46 a1) = a2 then wX8_scan_77   a1 a3 a4 (0 : Int32) (0 : Int32) (0 : Int32) s6 Q else (vp_in a1 4 ∧ (if (gA s6 46 a1) = (-4 : Int32) then Q (-21 : Int32) s6 else Q (-23 : Int32) s6))))))))))
def wX8_wish (a1 : Int32) (a2 : Int32) (a3 : Int32) (s : St) (Q : (Int32 → St → Prop)) : Prop :=
  wX8_areCouple a2 a1 (0 : Int32) s (fun r1 s2 => (if r1 = 0 then Q (-1 : Int32) s2 else wX8_in ((a3).toInt64) (0 : Int64) (4 : Int64) s2 (fun r3 s4 => (if r3 = 0 then Q (-1 : Int32) s4 else (vp_in (((16 : Int32) * a1) + a2) 256 ∧ (vp_in (((16 : Int32) * a1) + a2) 256 ∧ Q (gA s4 36 (((16 : Int32) * a1) + a2)) (stA s4 36 (((16 : Int32) * a1) + a2) a3)))))))
def wX8_fewest_17_b  (P4 : Int32 → Int32 → St → Prop) (P17 : Int32 → Int32 → Int32 → Int32 → St → Prop) (a1 : Int32) (a2 : Int32) (a3 : Int32) (a4 : Int32) (s : St) (Q : (Int32 → St → Prop)) : Prop :=
  (if (gF s 3000) ≤ a4 then (if a3 ≤ a1 then P4 a1 (a2 + (1 : Int32)) s else P4 a3 (a2 + (1 : Int32)) s) else (vp_in (((16 : Int32) * a2) + a4) 256 ∧ (vp_in (((16 : Int32) * a4) + a2) 256 ∧ P17 a1 a2 (a3 + ((gA s 36 (((16 : Int32) * a2) + a4)) + (gA s 36 (((16 : Int32) * a4) + a2)))) (a4 + (1 : Int32)) s)))
def wX8_fewest_17  (P4 : Int32 → Int32 → St → Prop) (a1 : Int32) (a2 : Int32) (a3 : Int32) (a4 : Int32) (s : St) (Q : (Int32 → St → Prop)) : Prop := ∀ P : Int32 → Int32 → Int32 → Int32 → St → Prop, (∀ (a1 : Int32) (a2 : Int32) (a3 : Int32) (a4 : Int32) (s : St), wX8_fewest_17_b  P4 P a1 a2 a3 a4 s Q → P a1 a2 a3 a4 s) → P a1 a2 a3 a4 s
def wX8_fewest_4_b   (P4 : Int32 → Int32 → St → Prop) (a1 : Int32) (a2 : Int32) (s : St) (Q : (Int32 → St → Prop)) : Prop :=
  (if (gF s 3000) ≤ a2 then Q a1 s else wX8_fewest_17  P4 a1 a2 (0 : Int32) (0 : Int32) s Q)
def wX8_fewest_4   (a1 : Int32) (a2 : Int32) (s : St) (Q : (Int32 → St → Prop)) : Prop := ∀ P : Int32 → Int32 → St → Prop, (∀ (a1 : Int32) (a2 : Int32) (s : St), wX8_fewest_4_b   P a1 a2 s Q → P a1 a2 s) → P a1 a2 s
def wX8_fewest  (s : St) (Q : (Int32 → St → Prop)) : Prop :=
  wX8_fewest_4   (0 : Int32) (0 : Int32) s Q
def wX8_freeOf_2_b   (P2 : Int32 → Int32 → St → Prop) (a1 : Int32) (a2 : Int32) (s : St) (Q : (Int32 → St → Prop)) : Prop :=
  (vp_in (((64 : Int32) * a1) + a2) 1024 ∧ (if (gA s 49 (((64 : Int32) * a1) + a2)) = (-4 : Int32) then Q a2 s else P2 a1 (a2 + (1 : Int32)) s))
def wX8_freeOf_2   (a1 : Int32) (a2 : Int32) (s : St) (Q : (Int32 → St → Prop)) : Prop := ∀ P : Int32 → Int32 → St → Prop, (∀ (a1 : Int32) (a2 : Int32) (s : St), wX8_freeOf_2_b   P a1 a2 s Q → P a1 a2 s) → P a1 a2 s
def wX8_freeOf (a1 : Int32) (s : St) (Q : (Int32 → St → Prop)) : Prop :=
  wX8_freeOf_2   a1 (0 : Int32) s Q
def wX8_lays_121   (a1 : Int32) (a2 : Int32) (a3 : Int32) (s : St) (Q : (St → Prop)) : Prop :=
  (vp_in (((64 : Int32) * a1) + a3) 1024 ∧ (vp_in (((64 : Int32) * a2) + a3) 1024 ∧ Q (stA (stA s 49 (((64 : Int32) * a1) + a3) a2) 49 (((64 : Int32) * a2) + a3) a1)))
def wX8_lays_74  (P25 : Int32 → Int32 → Int32 → Int32 → Int32 → Int32 → St → Prop) (a1 : Int32) (a2 : Int32) (a3 : Int32) (a4 : Int32) (a5 : Int32) (a6 : Int32) (a7 : Int32) (a8 : Int32) (t0 : Int32) (s : St) (Q : (St → Prop)) : Prop :=
  (vp_in (((64 : Int32) * a5) + a3) 1024 ∧ (vp_in (((64 : Int32) * a5) + a4) 1024 ∧ P25 a1 a2 a3 a4 t0 ((a3 + a4) - a6) (stA (stA s 49 (((64 : Int32) * a5) + a3) a8) 49 (((64 : Int32) * a5) + a4) a7)))
def wX8_lays_25_b   (P25 : Int32 → Int32 → Int32 → Int32 → Int32 → Int32 → St → Prop) (a1 : Int32) (a2 : Int32) (a3 : Int32) (a4 : Int32) (a5 : Int32) (a6 : Int32) (s : St) (Q : (St → Prop)) : Prop :=
  (if a5 = (-4 : Int32) then wX8_lays_121   a1 a2 a3 s Q else (vp_in (((64 : Int32) * a5) + a3) 1024 ∧ (vp_in (((64 : Int32) * a5) + a4) 1024 ∧ (if a6 = a3 then wX8_lays_74  P25 a1 a2 a3 a4 a5 a6 (gA s 49 (((64 : Int32) * a5) + a3)) (gA s 49 (((64 : Int32) * a5) + a4)) (gA s 49 (((64 : Int32) * a5) + a3)) s Q else wX8_lays_74  P25 a1 a2 a3 a4 a5 a6 (gA s 49 (((64 : Int32) * a5) + a3)) (gA s 49 (((64 : Int32) * a5) + a4)) (gA s 49 (((64 : Int32) * a5) + a4)) s Q))))
def wX8_lays_25   (a1 : Int32) (a2 : Int32) (a3 : Int32) (a4 : Int32) (a5 : Int32) (a6 : Int32) (s : St) (Q : (St → Prop)) : Prop := ∀ P : Int32 → Int32 → Int32 → Int32 → Int32 → Int32 → St → Prop, (∀ (a1 : Int32) (a2 : Int32) (a3 : Int32) (a4 : Int32) (a5 : Int32) (a6 : Int32) (s : St), wX8_lays_25_b   P a1 a2 a3 a4 a5 a6 s Q → P a1 a2 a3 a4 a5 a6 s) → P a1 a2 a3 a4 a5 a6 s
def wX8_lays (a1 : Int32) (a2 : Int32) (s : St) (Q : (St → Prop)) : Prop :=
  wX8_freeOf a1 s (fun r1 s2 => wX8_freeOf a2 s2 (fun r3 s4 => (if r1 = r3 then wX8_lays_121   a1 a2 r1 s4 Q else wX8_lays_25   a1 a2 r1 r3 a2 r1 s4 Q)))
def wX8_layAll_45_b  (P25 : Int32 → St → Prop) (P35 : Int32 → Int32 → St → Prop) (P45 : Int32 → Int32 → Int32 → St → Prop) (a1 : Int32) (a2 : Int32) (a3 : Int32) (s : St) (Q : (St → Prop)) : Prop :=
  (vp_in (((16 : Int32) * a1) + a2) 256 ∧ (if (gA s 36 (((16 : Int32) * a1) + a2)) ≤ a3 then P35 a1 (a2 + (1 : Int32)) s else wX8_lays a1 a2 s (fun s2 => P45 a1 a2 (a3 + (1 : Int32)) s2)))
def wX8_layAll_45  (P25 : Int32 → St → Prop) (P35 : Int32 → Int32 → St → Prop) (a1 : Int32) (a2 : Int32) (a3 : Int32) (s : St) (Q : (St → Prop)) : Prop := ∀ P : Int32 → Int32 → Int32 → St → Prop, (∀ (a1 : Int32) (a2 : Int32) (a3 : Int32) (s : St), wX8_layAll_45_b  P25 P35 P a1 a2 a3 s Q → P a1 a2 a3 s) → P a1 a2 a3 s
def wX8_layAll_35_b  (P25 : Int32 → St → Prop) (P35 : Int32 → Int32 → St → Prop) (a1 : Int32) (a2 : Int32) (s : St) (Q : (St → Prop)) : Prop :=
  (if (gF s 3000) ≤ a2 then P25 (a1 + (1 : Int32)) s else wX8_layAll_45  P25 P35 a1 a2 (0 : Int32) s Q)
def wX8_layAll_35  (P25 : Int32 → St → Prop) (a1 : Int32) (a2 : Int32) (s : St) (Q : (St → Prop)) : Prop := ∀ P : Int32 → Int32 → St → Prop, (∀ (a1 : Int32) (a2 : Int32) (s : St), wX8_layAll_35_b  P25 P a1 a2 s Q → P a1 a2 s) → P a1 a2 s
def wX8_layAll_25_b   (P25 : Int32 → St → Prop) (a1 : Int32) (s : St) (Q : (St → Prop)) : Prop :=
  (if (gF s 3000) ≤ a1 then Q s else wX8_layAll_35  P25 a1 (0 : Int32) s Q)
def wX8_layAll_25   (a1 : Int32) (s : St) (Q : (St → Prop)) : Prop := ∀ P : Int32 → St → Prop, (∀ (a1 : Int32) (s : St), wX8_layAll_25_b   P a1 s Q → P a1 s) → P a1 s
def wX8_layAll_2_b   (P2 : Int32 → St → Prop) (a1 : Int32) (s : St) (Q : (St → Prop)) : Prop :=
  (if (1024 : Int32) ≤ a1 then wX8_layAll_25   (0 : Int32) s Q else (vp_in a1 1024 ∧ P2 (a1 + (1 : Int32)) (stA s 49 a1 (-4 : Int32))))
def wX8_layAll_2   (a1 : Int32) (s : St) (Q : (St → Prop)) : Prop := ∀ P : Int32 → St → Prop, (∀ (a1 : Int32) (s : St), wX8_layAll_2_b   P a1 s Q → P a1 s) → P a1 s
def wX8_layAll  (s : St) (Q : (St → Prop)) : Prop :=
  wX8_layAll_2   (0 : Int32) s Q
def wX8_laid (a1 : Int32) (a2 : Int32) (s : St) (Q : (Int32 → St → Prop)) : Prop :=
  wX8_is a1 s (fun r1 s2 => (if r1 = 0 then Q (-1 : Int32) s2 else wX8_in ((a2).toInt64) (0 : Int64) (63 : Int64) s2 (fun r3 s4 => (if r3 = 0 then Q (-1 : Int32) s4 else wX8_layAll  s4 (fun s6 => (vp_in (((64 : Int32) * a1) + a2) 1024 ∧ Q (gA s6 49 (((64 : Int32) * a1) + a2)) s6))))))
def wX8_quarrel (a1 : Int32) (a2 : Int32) (a3 : Int32) (s : St) (Q : (Int32 → St → Prop)) : Prop :=
  (vp_in a1 8 ∧ (vp_in a2 8 ∧ wX8_cardOf (gA s 50 a1) a3 s (fun r1 s2 => wX8_cardOf (gA s 50 a2) a3 s2 (fun r3 s4 => (vp_in (((16 : Int32) * (gA s 50 a1)) + (gA s 50 a2)) 256 ∧ (if (gA s4 35 (((16 : Int32) * (gA s 50 a1)) + (gA s 50 a2))) = 0 then (vp_in (((16 : Int32) * (gA s 50 a1)) + r3) 256 ∧ (if (gA s4 35 (((16 : Int32) * (gA s 50 a1)) + r3)) = 0 then (vp_in (((16 : Int32) * r1) + (gA s 50 a2)) 256 ∧ (if (gA s4 35 (((16 : Int32) * r1) + (gA s 50 a2))) = 0 then (vp_in (((16 : Int32) * r1) + r3) 256 ∧ (if (gA s4 35 (((16 : Int32) * r1) + r3)) = 0 then Q (0 : Int32) s4 else Q (1 : Int32) s4)) else Q (1 : Int32) s4)) else Q (1 : Int32) s4)) else Q (1 : Int32) s4))))))
def wX8_mayStand_8_b   (P8 : Int32 → Int32 → Int32 → Int32 → Int32 → St → Prop) (a1 : Int32) (a2 : Int32) (a3 : Int32) (a4 : Int32) (a5 : Int32) (s : St) (Q : (Int32 → St → Prop)) : Prop :=
  (if a1 ≤ a5 then (if a4 = 0 then Q (0 : Int32) s else (if (4 : Int32) ≤ a3 then Q (0 : Int32) s else Q (1 : Int32) s)) else (vp_in a5 9 ∧ (vp_in a1 9 ∧ (if (gA s 51 a5) = (gA s 51 a1) then (if a4 = 0 then P8 a1 a2 (a3 + (1 : Int32)) (0 : Int32) (a5 + (1 : Int32)) s else wX8_quarrel a5 a1 a2 s (fun r1 s2 => (if r1 = 0 then P8 a1 a2 (a3 + (1 : Int32)) (1 : Int32) (a5 + (1 : Int32)) s2 else P8 a1 a2 (a3 + (1 : Int32)) (0 : Int32) (a5 + (1 : Int32)) s2))) else P8 a1 a2 a3 a4 (a5 + (1 : Int32)) s))))
def wX8_mayStand_8   (a1 : Int32) (a2 : Int32) (a3 : Int32) (a4 : Int32) (a5 : Int32) (s : St) (Q : (Int32 → St → Prop)) : Prop := ∀ P : Int32 → Int32 → Int32 → Int32 → Int32 → St → Prop, (∀ (a1 : Int32) (a2 : Int32) (a3 : Int32) (a4 : Int32) (a5 : Int32) (s : St), wX8_mayStand_8_b   P a1 a2 a3 a4 a5 s Q → P a1 a2 a3 a4 a5 s) → P a1 a2 a3 a4 a5 s
def wX8_mayStand (a1 : Int32) (a2 : Int32) (s : St) (Q : (Int32 → St → Prop)) : Prop :=
  wX8_mayStand_8   a1 a2 (0 : Int32) (1 : Int32) (0 : Int32) s Q
def wX8_stand_69   (a3 : Int32) (s : St) (Q : (Int32 → St → Prop)) : Prop :=
  (if a3 = (gF s 3028) then Q (1 : Int32) s else Q (0 : Int32) s)
def wX8_stand_9_b   (P9 : Int32 → Int32 → Int32 → St → Prop) (a1 : Int32) (a2 : Int32) (a3 : Int32) (s : St) (Q : (Int32 → St → Prop)) : Prop :=
  (if a3 < 0 then wX8_stand_69   a3 s Q else (if (gF s 3028) ≤ a3 then wX8_stand_69   a3 s Q else (vp_in a3 9 ∧ (vp_in a3 9 ∧ (vp_in a3 9 ∧ (if (gA (stA s 51 a3 ((gA s 51 a3) + (1 : Int32))) 51 a3) = a1 then P9 a1 a2 (a3 + (-1 : Int32)) (stA s 51 a3 ((gA s 51 a3) + (1 : Int32))) else wX8_mayStand a3 a2 (stA s 51 a3 ((gA s 51 a3) + (1 : Int32))) (fun r1 s2 => (if r1 = 0 then P9 a1 a2 a3 s2 else (vp_in (a3 + (1 : Int32)) 9 ∧ P9 a1 a2 (a3 + (1 : Int32)) (stA s2 51 (a3 + (1 : Int32)) (-1 : Int32)))))))))))
def wX8_stand_9   (a1 : Int32) (a2 : Int32) (a3 : Int32) (s : St) (Q : (Int32 → St → Prop)) : Prop := ∀ P : Int32 → Int32 → Int32 → St → Prop, (∀ (a1 : Int32) (a2 : Int32) (a3 : Int32) (s : St), wX8_stand_9_b   P a1 a2 a3 s Q → P a1 a2 a3 s) → P a1 a2 a3 s
def wX8_stand (a1 : Int32) (a2 : Int32) (s : St) (Q : (Int32 → St → Prop)) : Prop :=
  (vp_in (0 : Int32) 9 ∧ wX8_stand_9   a1 a2 (0 : Int32) (stA s 51 (0 : Int32) (-1 : Int32)) Q)
def wX8_laySets_90  (P64 : Int32 → St → Prop) (a1 : Int32) (s : St) (Q : (St → Prop)) : Prop :=
  P64 a1 (stF s 3031 ((gF s 3031) + (1 : Int32)))
def wX8_laySets_64_b   (P64 : Int32 → St → Prop) (a1 : Int32) (s : St) (Q : (St → Prop)) : Prop :=
  (if (gF s 3028) ≤ 0 then Q s else (if (gF s 3031) = 0 then wX8_laySets_90  P64 a1 s Q else wX8_stand (gF s 3031) a1 s (fun r1 s2 => (if r1 = 0 then wX8_laySets_90  P64 a1 s2 Q else Q s2))))
def wX8_laySets_64   (a1 : Int32) (s : St) (Q : (St → Prop)) : Prop := ∀ P : Int32 → St → Prop, (∀ (a1 : Int32) (s : St), wX8_laySets_64_b   P a1 s Q → P a1 s) → P a1 s
def wX8_laySets_7_b   (P7 : Int32 → Int32 → St → Prop) (a1 : Int32) (a2 : Int32) (s : St) (Q : (St → Prop)) : Prop :=
  (if (gF s 3000) ≤ a2 then wX8_laySets_64   a1 (stF s 3031 (0 : Int32)) Q else (vp_in a2 16 ∧ (if (gA s 31 a2) = 0 then P7 a1 (a2 + (1 : Int32)) s else wX8_cardOf a2 a1 s (fun r3 s4 => (if r3 < 0 then P7 a1 (a2 + (1 : Int32)) s4 else (vp_in (gF s4 3028) 8 ∧ P7 a1 (a2 + (1 : Int32)) (stF (stA s4 50 (gF s4 3028) a2) 3028 ((gF (stA s4 50 (gF s4 3028) a2) 3028) + (1 : Int32)))))))))
def wX8_laySets_7   (a1 : Int32) (a2 : Int32) (s : St) (Q : (St → Prop)) : Prop := ∀ P : Int32 → Int32 → St → Prop, (∀ (a1 : Int32) (a2 : Int32) (s : St), wX8_laySets_7_b   P a1 a2 s Q → P a1 a2 s) → P a1 a2 s
def wX8_laySets (a1 : Int32) (s : St) (Q : (St → Prop)) : Prop :=
  wX8_laySets_7   a1 (0 : Int32) (stF s 3028 (0 : Int32)) Q
def wX8_sets (a1 : Int32) (s : St) (Q : (Int32 → St → Prop)) : Prop :=
  wX8_in ((a1).toInt64) (0 : Int64) (23 : Int64) s (fun r1 s2 => (if r1 = 0 then Q (-1 : Int32) s2 else wX8_laySets a1 s2 (fun s4 => Q (gF s4 3031) s4)))
def wX8_set_29_b   (P29 : Int32 → Int32 → Int32 → St → Prop) (a1 : Int32) (a2 : Int32) (a3 : Int32) (s : St) (Q : (Int32 → St → Prop)) : Prop :=
  (if (gF s 3028) ≤ a3 then Q (-4 : Int32) s else (vp_in a3 8 ∧ (if (gA s 50 a3) = a1 then (vp_in a3 9 ∧ Q (gA s 51 a3) s) else (vp_in a3 8 ∧ wX8_cardOf (gA s 50 a3) a2 s (fun r7 s8 => (if r7 = a1 then (vp_in a3 9 ∧ Q (gA s8 51 a3) s8) else P29 a1 a2 (a3 + (1 : Int32)) s8))))))
def wX8_set_29   (a1 : Int32) (a2 : Int32) (a3 : Int32) (s : St) (Q : (Int32 → St → Prop)) : Prop := ∀ P : Int32 → Int32 → Int32 → St → Prop, (∀ (a1 : Int32) (a2 : Int32) (a3 : Int32) (s : St), wX8_set_29_b   P a1 a2 a3 s Q → P a1 a2 a3 s) → P a1 a2 a3 s
def wX8_set (a1 : Int32) (a2 : Int32) (s : St) (Q : (Int32 → St → Prop)) : Prop :=
  wX8_is a1 s (fun r1 s2 => (if r1 = 0 then Q (-1 : Int32) s2 else wX8_in ((a2).toInt64) (0 : Int64) (23 : Int64) s2 (fun r3 s4 => (if r3 = 0 then Q (-1 : Int32) s4 else wX8_laySets a2 s4 (fun s6 => wX8_set_29   a1 a2 (0 : Int32) s6 Q)))))
def wX8_count_55_b   (P55 : Int32 → Int32 → St → Prop) (a2 : Int32) (a3 : Int32) (s : St) (Q : (Int32 → St → Prop)) : Prop :=
  (if (gF s 3000) ≤ a3 then Q a2 s else (vp_in a3 16 ∧ (if (gA s 31 a3) = 0 then P55 (a2 + (0 : Int32)) (a3 + (1 : Int32)) s else P55 (a2 + (1 : Int32)) (a3 + (1 : Int32)) s)))
def wX8_count_55   (a2 : Int32) (a3 : Int32) (s : St) (Q : (Int32 → St → Prop)) : Prop := ∀ P : Int32 → Int32 → St → Prop, (∀ (a2 : Int32) (a3 : Int32) (s : St), wX8_count_55_b   P a2 a3 s Q → P a2 a3 s) → P a2 a3 s
def wX8_count_90_b   (P90 : Int32 → Int32 → St → Prop) (a2 : Int32) (a3 : Int32) (s : St) (Q : (Int32 → St → Prop)) : Prop :=
  (if ((24 : Int32) * (gF s 3000)) ≤ a3 then (¬ (2 : Int32) = 0 ∧ Q (a2 / (2 : Int32)) s) else (vp_in a3 384 ∧ (if (gA s 37 a3) < 0 then P90 (a2 + (0 : Int32)) (a3 + (1 : Int32)) s else P90 (a2 + (1 : Int32)) (a3 + (1 : Int32)) s)))
def wX8_count_90   (a2 : Int32) (a3 : Int32) (s : St) (Q : (Int32 → St → Prop)) : Prop := ∀ P : Int32 → Int32 → St → Prop, (∀ (a2 : Int32) (a3 : Int32) (s : St), wX8_count_90_b   P a2 a3 s Q → P a2 a3 s) → P a2 a3 s
def wX8_count_130_b   (P130 : Int32 → Int32 → St → Prop) (a2 : Int32) (a3 : Int32) (s : St) (Q : (Int32 → St → Prop)) : Prop :=
  (if (4 : Int32) ≤ a3 then Q a2 s else (vp_in a3 4 ∧ (if (gA s 39 a3) = (-4 : Int32) then P130 (a2 + (0 : Int32)) (a3 + (1 : Int32)) s else P130 (a2 + (1 : Int32)) (a3 + (1 : Int32)) s)))
def wX8_count_130   (a2 : Int32) (a3 : Int32) (s : St) (Q : (Int32 → St → Prop)) : Prop := ∀ P : Int32 → Int32 → St → Prop, (∀ (a2 : Int32) (a3 : Int32) (s : St), wX8_count_130_b   P a2 a3 s Q → P a2 a3 s) → P a2 a3 s
def wX8_count_164_b   (P164 : Int32 → Int32 → St → Prop) (a2 : Int32) (a3 : Int32) (s : St) (Q : (Int32 → St → Prop)) : Prop :=
  (if (gF s 3000) ≤ a3 then Q a2 s else (vp_in a3 16 ∧ (if (gA s 33 a3) = 0 then P164 (a2 + (0 : Int32)) (a3 + (1 : Int32)) s else P164 (a2 + (1 : Int32)) (a3 + (1 : Int32)) s)))
def wX8_count_164   (a2 : Int32) (a3 : Int32) (s : St) (Q : (Int32 → St → Prop)) : Prop := ∀ P : Int32 → Int32 → St → Prop, (∀ (a2 : Int32) (a3 : Int32) (s : St), wX8_count_164_b   P a2 a3 s Q → P a2 a3 s) → P a2 a3 s
def wX8_count_199_b   (P199 : Int32 → Int32 → St → Prop) (a2 : Int32) (a3 : Int32) (s : St) (Q : (Int32 → St → Prop)) : Prop :=
  (if (256 : Int32) ≤ a3 then (¬ (2 : Int32) = 0 ∧ Q (a2 / (2 : Int32)) s) else (vp_in a3 256 ∧ (if (gA s 34 a3) = 0 then P199 (a2 + (0 : Int32)) (a3 + (1 : Int32)) s else P199 (a2 + (1 : Int32)) (a3 + (1 : Int32)) s)))
def wX8_count_199   (a2 : Int32) (a3 : Int32) (s : St) (Q : (Int32 → St → Prop)) : Prop := ∀ P : Int32 → Int32 → St → Prop, (∀ (a2 : Int32) (a3 : Int32) (s : St), wX8_count_199_b   P a2 a3 s Q → P a2 a3 s) → P a2 a3 s
def wX8_count (a1 : Int32) (s : St) (Q : (Int32 → St → Prop)) : Prop :=
  (if a1 = 0 then Q (gF s 3000) s else (if a1 = 1 then wX8_count_55   (0 : Int32) (0 : Int32) s Q else (if a1 = 2 then wX8_count_90   (0 : Int32) (0 : Int32) s Q else (if a1 = 3 then wX8_count_130   (0 : Int32) (0 : Int32) s Q else (if a1 = 4 then wX8_count_164   (0 : Int32) (0 : Int32) s Q else (if a1 = 5 then wX8_count_199   (0 : Int32) (0 : Int32) s Q else (if a1 = 6 then (vp_in (0 : Int32) 4 ∧ (if (gA s 46 (0 : Int32)) = (-4 : Int32) then Q (-4 : Int32) s else (vp_in (0 : Int32) 4 ∧ Q (gA s 47 (0 : Int32)) s))) else (if a1 = 7 then Q (gF s 3009) s else Q (-1 : Int32) s))))))))
