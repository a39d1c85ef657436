def wB_Rmove_14 (a1 : Int) (a2 : Int) (a3 : Int) (a4 : Int) (a5 : Int) (k : Int → gSt → Prop)   (M : gSt) : Prop :=
w_Rerror 1 M (fun r16c M16 => k r16c M16)
def wB_Rmove_38 (a1 : Int) (a2 : Int) (a3 : Int) (a4 : Int) (a5 : Int) (k : Int → gSt → Prop)   (M : gSt) : Prop :=
w_Rerror 2 M (fun r40c M40 => k r40c M40)
def wB_Rmove_106 (a1 : Int) (a2 : Int) (a3 : Int) (a4 : Int) (a5 : Int) (k : Int → gSt → Prop)   (M : gSt) : Prop :=
w_Rerror 1 M (fun r108c M108 => k r108c M108)
def wC_Rmove_115 (a1 : Int) (a2 : Int) (a3 : Int) (a4 : Int) (a5 : Int) (k : Int → gSt → Prop) (r115 : Int → gSt → Prop) (X115_149 : gSt → Prop) (v6 : Int) (M : gSt) : Prop :=

  (wrap a5 ≤ wrap v6 →
    X115_149  M) ∧
  (wrap v6 < wrap a5 →
    (0 ≤ ((24 * a1) + a2) + v6 ∧ ((24 * a1) + a2) + v6 < 96) ∧ ((0 ≤ v6 ∧ v6 < 24) ∧ (∀ M142 : gSt, M142 = wr M 14 v6 (M 13 (((24 * a1) + a2) + v6)) → (r115 (v6 + 1) M142))))
def wL_Rmove_115 (a1 : Int) (a2 : Int) (a3 : Int) (a4 : Int) (a5 : Int) (k : Int → gSt → Prop)  (X115_149 : gSt → Prop) : Nat → Int → gSt → Prop
  | 0 => fun _ _ => False
  | n + 1 => fun v6 M => wC_Rmove_115 a1 a2 a3 a4 a5 k  (wL_Rmove_115 a1 a2 a3 a4 a5 k  X115_149 n) X115_149 v6 M
def wC_Rmove_152 (a1 : Int) (a2 : Int) (a3 : Int) (a4 : Int) (a5 : Int) (k : Int → gSt → Prop) (r152 : Int → gSt → Prop) (X152_187 : gSt → Prop) (v6 : Int) (M : gSt) : Prop :=

  (wrap a5 ≤ wrap v6 →
    X152_187  M) ∧
  (wrap v6 < wrap a5 →
    (0 ≤ v6 ∧ v6 < 24) ∧ ((0 ≤ ((24 * a3) + a4) + v6 ∧ ((24 * a3) + a4) + v6 < 96) ∧ (∀ M180 : gSt, M180 = wr M 13 (((24 * a3) + a4) + v6) (M 14 v6) → (r152 (v6 + 1) M180))))
def wL_Rmove_152 (a1 : Int) (a2 : Int) (a3 : Int) (a4 : Int) (a5 : Int) (k : Int → gSt → Prop)  (X152_187 : gSt → Prop) : Nat → Int → gSt → Prop
  | 0 => fun _ _ => False
  | n + 1 => fun v6 M => wC_Rmove_152 a1 a2 a3 a4 a5 k  (wL_Rmove_152 a1 a2 a3 a4 a5 k  X152_187 n) X152_187 v6 M
def w_Rmove (a1 : Int) (a2 : Int) (a3 : Int) (a4 : Int) (a5 : Int) (M : gSt) (k : Int → gSt → Prop) : Prop :=
w_RisSheet a1 M (fun r1c M1 => 
  (wrap r1c = 0 →
    wB_Rmove_14 a1 a2 a3 a4 a5 k   M1) ∧
  (¬ wrap r1c = 0 →
    w_RisSheet a3 M1 (fun r8c M8 => 
    (¬ wrap r8c = 0 →
      (0 ≤ a1 ∧ a1 < 4) ∧ (
      (wrap (M8 11 a1) = 0 →
        wB_Rmove_38 a1 a2 a3 a4 a5 k   M8) ∧
      (¬ wrap (M8 11 a1) = 0 →
        (0 ≤ a3 ∧ a3 < 4) ∧ (
        (¬ wrap (M8 11 a3) = 0 →
          (0 ≤ a1 ∧ a1 < 4) ∧ ((0 ≤ a3 ∧ a3 < 4) ∧ (
          (wrap (M8 11 a1) = wrap (M8 11 a3) →

            (wrap a5 < 0 →
              wB_Rmove_106 a1 a2 a3 a4 a5 k   M8) ∧
            (0 ≤ wrap a5 →

              (wrap a2 < 0 →
                wB_Rmove_106 a1 a2 a3 a4 a5 k   M8) ∧
              (0 ≤ wrap a2 →

                (wrap a4 < 0 →
                  wB_Rmove_106 a1 a2 a3 a4 a5 k   M8) ∧
                (0 ≤ wrap a4 →
                  (0 ≤ a1 ∧ a1 < 4) ∧ (
                  (wrap ((M8 12 a1) - a5) < wrap a2 →
                    wB_Rmove_106 a1 a2 a3 a4 a5 k   M8) ∧
                  (wrap a2 ≤ wrap ((M8 12 a1) - a5) →
                    (0 ≤ a3 ∧ a3 < 4) ∧ (
                    (wrap a4 ≤ wrap ((M8 12 a3) - a5) →
                      ∃ n, wL_Rmove_115 a1 a2 a3 a4 a5 k  (fun  M115 =>
                        ∃ n, wL_Rmove_152 a1 a2 a3 a4 a5 k  (fun  M152 =>
                          k a5 M152) n 0 M115) n 0 M8) ∧
                    (wrap ((M8 12 a3) - a5) < wrap a4 →
                      wB_Rmove_106 a1 a2 a3 a4 a5 k   M8)))))))) ∧
          (¬ wrap (M8 11 a1) = wrap (M8 11 a3) →
            w_Rerror 5 M8 (fun r61c M61 => k r61c M61))))) ∧
        (wrap (M8 11 a3) = 0 →
          wB_Rmove_38 a1 a2 a3 a4 a5 k   M8))))) ∧
    (wrap r8c = 0 →
      wB_Rmove_14 a1 a2 a3 a4 a5 k   M8))))
set_option maxHeartbeats 4000000 in
set_option maxRecDepth 100000 in
theorem m_Rmove {l : Launch} {D : va_G} {cl : List vw_C} {tys : List (ClassId × FieldType)} {ad : Nat → Nat} {cI : ClassId} {ci : Nat} {Z : (Nat → Prop) → State → Prop} (hci : cl[ci]? = some (RX9, TX9, 23)) {a1 : Int} {a2 : Int} {a3 : Int} {a4 : Int} {a5 : Int} {M : gSt} {k : Int → gSt → Prop} (h : w_Rmove a1 a2 a3 a4 a5 M k) : MOi l yX9_move cX9_move 7 .int (rmR 2 42) D cl ((cI, .int) :: tys) (wR ad cI ci) tR Z [.ref (ad 0), iv a1, iv a2, iv a3, iv a4, iv a5] M k := by
  refine moi_intro (by decide +kernel) (Nat.le_of_ble_eq_true rfl) wi_295 ?_
  intro p e s m args below meth c A Q C hR
  have pB14 : ∀    (M : gSt), wB_Rmove_14 a1 a2 a3 a4 a5 k   M → gG p l e (rmR 2 42) s m args below meth c Q D cl A (wR ad cI ci) 7 14 [(0, .ref (ad 0))] [] M := by
    intro    M h
    unfold wB_Rmove_14 at h
    refine g_aload_n C dR_move_14 rfl ?_
    refine g_iconst C dR_move_15 ?_
    refine g_callVi C (nargs := 1) (o := 0) (st := []) (m_Rerror hci h) rfl (by decide) hci rfl gd_error (by decide +kernel) ⟨rfl, rfl⟩ dR_move_16 ⟨by decide, by decide⟩ rfl rfl (Nat.le_of_ble_eq_true rfl) ?_
    intro r16c M16 h
    exact hR _ _ _ _ dR_move_19 rfl h
  have pB38 : ∀    (M : gSt), wB_Rmove_38 a1 a2 a3 a4 a5 k   M → gG p l e (rmR 2 42) s m args below meth c Q D cl A (wR ad cI ci) 7 38 [(0, .ref (ad 0))] [] M := by
    intro    M h
    unfold wB_Rmove_38 at h
    refine g_aload_n C dR_move_38 rfl ?_
    refine g_iconst C dR_move_39 ?_
    refine g_callVi C (nargs := 1) (o := 0) (st := []) (m_Rerror hci h) rfl (by decide) hci rfl gd_error (by decide +kernel) ⟨rfl, rfl⟩ dR_move_40 ⟨by decide, by decide⟩ rfl rfl (Nat.le_of_ble_eq_true rfl) ?_
    intro r40c M40 h
    exact hR _ _ _ _ dR_move_43 rfl h
  have pB106 : ∀    (M : gSt), wB_Rmove_106 a1 a2 a3 a4 a5 k   M → gG p l e (rmR 2 42) s m args below meth c Q D cl A (wR ad cI ci) 7 106 [(0, .ref (ad 0))] [] M := by
    intro    M h
    unfold wB_Rmove_106 at h
    refine g_aload_n C dR_move_106 rfl ?_
    refine g_iconst C dR_move_107 ?_
    refine g_callVi C (nargs := 1) (o := 0) (st := []) (m_Rerror hci h) rfl (by decide) hci rfl gd_error (by decide +kernel) ⟨rfl, rfl⟩ dR_move_108 ⟨by decide, by decide⟩ rfl rfl (Nat.le_of_ble_eq_true rfl) ?_
    intro r108c M108 h
    exact hR _ _ _ _ dR_move_111 rfl h
  have pC115 : ∀ (r115 : Int → gSt → Prop) (X115_149 : gSt → Prop) (hr115 : ∀ (v6 : Int) (M : gSt), r115 v6 M → gG p l e (rmR 2 42) s m args below meth c Q D cl A (wR ad cI ci) 7 115 [(0, .ref (ad 0)), (1, iv a1), (2, iv a2), (3, iv a3), (4, iv a4), (5, iv a5), (6, iv v6)] [] M) (hX115_149 : ∀  (M : gSt), X115_149  M → gG p l e (rmR 2 42) s m args below meth c Q D cl A (wR ad cI ci) 7 149 [(0, .ref (ad 0)), (3, iv a3), (4, iv a4), (5, iv a5)] [] M) (v6 : Int) (M : gSt), wC_Rmove_115 a1 a2 a3 a4 a5 k r115 X115_149 v6 M → gG p l e (rmR 2 42) s m args below meth c Q D cl A (wR ad cI ci) 7 115 [(0, .ref (ad 0)), (1, iv a1), (2, iv a2), (3, iv a3), (4, iv a4), (5, iv a5), (6, iv v6)] [] M := by
    intro r115 X115_149 hr115 hX115_149 v6 M h
    unfold wC_Rmove_115 at h
    refine g_iload C dR_move_115 rfl ?_
    refine g_iload C dR_move_117 rfl ?_
    refine g_icmp_ge C 149 dR_move_119 (by decide) (fun hc => ?_) (fun hc => ?_)
    · replace h := h.1 hc
      refine g_locals (lv' := [(0, .ref (ad 0)), (3, iv a3), (4, iv a4), (5, iv a5)]) rfl ?_
      exact hX115_149  _ h
    · replace h := h.2 hc
      refine g_aload_n C dR_move_122 rfl ?_
      refine rf_aside C hci dR_move_123 ?_
      refine g_iload C dR_move_126 rfl ?_
      refine g_aload_n C dR_move_128 rfl ?_
      refine rf_number C hci dR_move_129 ?_
      refine g_bipush C dR_move_132 rfl ?_
      refine g_iload_n C dR_move_134 rfl ?_
      refine g_imul C dR_move_135 ?_
      refine g_iload_n C dR_move_136 rfl ?_
      refine g_iadd C dR_move_137 ?_
      refine g_iload C dR_move_138 rfl ?_
      refine g_iadd C dR_move_140 ?_
      refine g_iald C (n := 96) dR_move_141 rfl (by decide) h.1 ?_
      replace h := h.2
      refine g_iast C (n := 24) dR_move_142 rfl (by decide) h.1 ?_
      replace h := h.2
      refine g_memname (fun M142 hM142 => ?_)
      replace h := h M142 hM142
      refine g_iinc C dR_move_143 rfl (by decide) rfl ?_
      refine g_locals (lv' := [(0, .ref (ad 0)), (1, iv a1), (2, iv a2), (3, iv a3), (4, iv a4), (5, iv a5), (6, iv (v6 + 1))]) rfl ?_
      refine g_goto C 115 dR_move_146 (by decide) ?_
      refine g_locals (lv' := [(0, .ref (ad 0)), (1, iv a1), (2, iv a2), (3, iv a3), (4, iv a4), (5, iv a5), (6, iv (v6 + 1))]) rfl ?_
      exact hr115 _  _ h
  have pL115 : ∀  (X115_149 : gSt → Prop) (hX115_149 : ∀  (M : gSt), X115_149  M → gG p l e (rmR 2 42) s m args below meth c Q D cl A (wR ad cI ci) 7 149 [(0, .ref (ad 0)), (3, iv a3), (4, iv a4), (5, iv a5)] [] M) (n : Nat) (v6 : Int) (M : gSt), wL_Rmove_115 a1 a2 a3 a4 a5 k  X115_149 n v6 M → gG p l e (rmR 2 42) s m args below meth c Q D cl A (wR ad cI ci) 7 115 [(0, .ref (ad 0)), (1, iv a1), (2, iv a2), (3, iv a3), (4, iv a4), (5, iv a5), (6, iv v6)] [] M := by
    intro  X115_149 hX115_149 n
    induction n with
    | zero => intro v6 M h; exact h.elim
    | succ n ih =>
      intro v6 M h
      exact pC115  (wL_Rmove_115 a1 a2 a3 a4 a5 k  X115_149 n) X115_149 ih hX115_149 v6 M h
  have pC152 : ∀ (r152 : Int → gSt → Prop) (X152_187 : gSt → Prop) (hr152 : ∀ (v6 : Int) (M : gSt), r152 v6 M → gG p l e (rmR 2 42) s m args below meth c Q D cl A (wR ad cI ci) 7 152 [(0, .ref (ad 0)), (3, iv a3), (4, iv a4), (5, iv a5), (6, iv v6)] [] M) (hX152_187 : ∀  (M : gSt), X152_187  M → gG p l e (rmR 2 42) s m args below meth c Q D cl A (wR ad cI ci) 7 187 [(5, iv a5)] [] M) (v6 : Int) (M : gSt), wC_Rmove_152 a1 a2 a3 a4 a5 k r152 X152_187 v6 M → gG p l e (rmR 2 42) s m args below meth c Q D cl A (wR ad cI ci) 7 152 [(0, .ref (ad 0)), (3, iv a3), (4, iv a4), (5, iv a5), (6, iv v6)] [] M := by
    intro r152 X152_187 hr152 hX152_187 v6 M h
    unfold wC_Rmove_152 at h
    refine g_iload C dR_move_152 rfl ?_
    refine g_iload C dR_move_154 rfl ?_
    refine g_icmp_ge C 187 dR_move_156 (by decide) (fun hc => ?_) (fun hc => ?_)
    · replace h := h.1 hc
      refine g_locals (lv' := [(5, iv a5)]) rfl ?_
      exact hX152_187  _ h
    · replace h := h.2 hc
      refine g_aload_n C dR_move_159 rfl ?_
      refine rf_number C hci dR_move_160 ?_
      refine g_bipush C dR_move_163 rfl ?_
      refine g_iload_n C dR_move_165 rfl ?_
      refine g_imul C dR_move_166 ?_
      refine g_iload C dR_move_167 rfl ?_
      refine g_iadd C dR_move_169 ?_
      refine g_iload C dR_move_170 rfl ?_
      refine g_iadd C dR_move_172 ?_
      refine g_aload_n C dR_move_173 rfl ?_
      refine rf_aside C hci dR_move_174 ?_
      refine g_iload C dR_move_177 rfl ?_
      refine g_iald C (n := 24) dR_move_179 rfl (by decide) h.1 ?_
      replace h := h.2
      refine g_iast C (n := 96) dR_move_180 rfl (by decide) h.1 ?_
      replace h := h.2
      refine g_memname (fun M180 hM180 => ?_)
      replace h := h M180 hM180
      refine g_iinc C dR_move_181 rfl (by decide) rfl ?_
      refine g_locals (lv' := [(0, .ref (ad 0)), (3, iv a3), (4, iv a4), (5, iv a5), (6, iv (v6 + 1))]) rfl ?_
      refine g_goto C 152 dR_move_184 (by decide) ?_
      refine g_locals (lv' := [(0, .ref (ad 0)), (3, iv a3), (4, iv a4), (5, iv a5), (6, iv (v6 + 1))]) rfl ?_
      exact hr152 _  _ h
  have pL152 : ∀  (X152_187 : gSt → Prop) (hX152_187 : ∀  (M : gSt), X152_187  M → gG p l e (rmR 2 42) s m args below meth c Q D cl A (wR ad cI ci) 7 187 [(5, iv a5)] [] M) (n : Nat) (v6 : Int) (M : gSt), wL_Rmove_152 a1 a2 a3 a4 a5 k  X152_187 n v6 M → gG p l e (rmR 2 42) s m args below meth c Q D cl A (wR ad cI ci) 7 152 [(0, .ref (ad 0)), (3, iv a3), (4, iv a4), (5, iv a5), (6, iv v6)] [] M := by
    intro  X152_187 hX152_187 n
    induction n with
    | zero => intro v6 M h; exact h.elim
    | succ n ih =>
      intro v6 M h
      exact pC152  (wL_Rmove_152 a1 a2 a3 a4 a5 k  X152_187 n) X152_187 ih hX152_187 v6 M h
  refine g_locals (lv' := [(0, .ref (ad 0)), (1, iv a1), (2, iv a2), (3, iv a3), (4, iv a4), (5, iv a5)]) rfl ?_
  unfold w_Rmove at h
  refine g_iload_n C dR_move_0 rfl ?_
  refine g_callSi C (nargs := 1) (st := []) (m_RisSheet hci h) gd_isSheet (by decide +kernel) ⟨rfl, rfl⟩ dR_move_1 ⟨by decide, by decide⟩ rfl rfl (Nat.le_of_ble_eq_true rfl) ?_
  intro r1c M1 h
  refine g_if_eq C 14 dR_move_4 (by decide) (fun hc => ?_) (fun hc => ?_)
  · replace h := h.1 hc
    refine g_locals (lv' := [(0, .ref (ad 0))]) rfl ?_
    exact pB14  _ h
  · replace h := h.2 hc
    refine g_iload_n C dR_move_7 rfl ?_
    refine g_callSi C (nargs := 1) (st := []) (m_RisSheet hci h) gd_isSheet (by decide +kernel) ⟨rfl, rfl⟩ dR_move_8 ⟨by decide, by decide⟩ rfl rfl (Nat.le_of_ble_eq_true rfl) ?_
    intro r8c M8 h
    refine g_if_ne C 20 dR_move_11 (by decide) (fun hc => ?_) (fun hc => ?_)
    · replace h := h.1 hc
      refine g_aload_n C dR_move_20 rfl ?_
      refine rf_bits C hci dR_move_21 ?_
      refine g_iload_n C dR_move_24 rfl ?_
      refine g_iald C (n := 4) dR_move_25 rfl (by decide) h.1 ?_
      replace h := h.2
      refine g_if_eq C 38 dR_move_26 (by decide) (fun hc => ?_) (fun hc => ?_)
      · replace h := h.1 hc
        refine g_locals (lv' := [(0, .ref (ad 0))]) rfl ?_
        exact pB38  _ h
      · replace h := h.2 hc
        refine g_aload_n C dR_move_29 rfl ?_
        refine rf_bits C hci dR_move_30 ?_
        refine g_iload_n C dR_move_33 rfl ?_
        refine g_iald C (n := 4) dR_move_34 rfl (by decide) h.1 ?_
        replace h := h.2
        refine g_if_ne C 44 dR_move_35 (by decide) (fun hc => ?_) (fun hc => ?_)
        · replace h := h.1 hc
          refine g_aload_n C dR_move_44 rfl ?_
          refine rf_bits C hci dR_move_45 ?_
          refine g_iload_n C dR_move_48 rfl ?_
          refine g_iald C (n := 4) dR_move_49 rfl (by decide) h.1 ?_
          replace h := h.2
          refine g_aload_n C dR_move_50 rfl ?_
          refine rf_bits C hci dR_move_51 ?_
          refine g_iload_n C dR_move_54 rfl ?_
          refine g_iald C (n := 4) dR_move_55 rfl (by decide) h.1 ?_
          replace h := h.2
          refine g_icmp_eq C 65 dR_move_56 (by decide) (fun hc => ?_) (fun hc => ?_)
          · replace h := h.1 hc
            refine g_iload C dR_move_65 rfl ?_
            refine g_if_lt C 106 dR_move_67 (by decide) (fun hc => ?_) (fun hc => ?_)
            · replace h := h.1 hc
              refine g_locals (lv' := [(0, .ref (ad 0))]) rfl ?_
              exact pB106  _ h
            · replace h := h.2 hc
              refine g_iload_n C dR_move_70 rfl ?_
              refine g_if_lt C 106 dR_move_71 (by decide) (fun hc => ?_) (fun hc => ?_)
              · replace h := h.1 hc
                refine g_locals (lv' := [(0, .ref (ad 0))]) rfl ?_
                exact pB106  _ h
              · replace h := h.2 hc
                refine g_iload C dR_move_74 rfl ?_
                refine g_if_lt C 106 dR_move_76 (by decide) (fun hc => ?_) (fun hc => ?_)
                · replace h := h.1 hc
                  refine g_locals (lv' := [(0, .ref (ad 0))]) rfl ?_
                  exact pB106  _ h
                · replace h := h.2 hc
                  refine g_iload_n C dR_move_79 rfl ?_
                  refine g_aload_n C dR_move_80 rfl ?_
                  refine rf_sizes C hci dR_move_81 ?_
                  refine g_iload_n C dR_move_84 rfl ?_
                  refine g_iald C (n := 4) dR_move_85 rfl (by decide) h.1 ?_
                  replace h := h.2
                  refine g_iload C dR_move_86 rfl ?_
                  refine g_isub C dR_move_88 ?_
                  refine g_icmp_gt C 106 dR_move_89 (by decide) (fun hc => ?_) (fun hc => ?_)
                  · replace h := h.1 hc
                    refine g_locals (lv' := [(0, .ref (ad 0))]) rfl ?_
                    exact pB106  _ h
                  · replace h := h.2 hc
                    refine g_iload C dR_move_92 rfl ?_
                    refine g_aload_n C dR_move_94 rfl ?_
                    refine rf_sizes C hci dR_move_95 ?_
                    refine g_iload_n C dR_move_98 rfl ?_
                    refine g_iald C (n := 4) dR_move_99 rfl (by decide) h.1 ?_
                    replace h := h.2
                    refine g_iload C dR_move_100 rfl ?_
                    refine g_isub C dR_move_102 ?_
                    refine g_icmp_le C 112 dR_move_103 (by decide) (fun hc => ?_) (fun hc => ?_)
                    · replace h := h.1 hc
                      refine g_iconst C dR_move_112 ?_
                      refine g_istore C dR_move_113 (by decide) rfl ?_
                      refine g_locals (lv' := [(0, .ref (ad 0)), (1, iv a1), (2, iv a2), (3, iv a3), (4, iv a4), (5, iv a5), (6, iv 0)]) rfl ?_
                      refine g_locals (lv' := [(0, .ref (ad 0)), (1, iv a1), (2, iv a2), (3, iv a3), (4, iv a4), (5, iv a5), (6, iv 0)]) rfl ?_
                      obtain ⟨n, h⟩ := h
                      refine pL115 _ ?_ n _ _ h
                      · intro  M115 h
                        refine g_iconst C dR_move_149 ?_
                        refine g_istore C dR_move_150 (by decide) rfl ?_
                        refine g_locals (lv' := [(0, .ref (ad 0)), (3, iv a3), (4, iv a4), (5, iv a5), (6, iv 0)]) rfl ?_
                        refine g_locals (lv' := [(0, .ref (ad 0)), (3, iv a3), (4, iv a4), (5, iv a5), (6, iv 0)]) rfl ?_
                        obtain ⟨n, h⟩ := h
                        refine pL152 _ ?_ n _ _ h
                        · intro  M152 h
                          refine g_iload C dR_move_187 rfl ?_
                          exact hR _ _ _ _ dR_move_189 rfl h
                    · replace h := h.2 hc
                      refine g_locals (lv' := [(0, .ref (ad 0))]) rfl ?_
                      exact pB106  _ h
          · replace h := h.2 hc
            refine g_aload_n C dR_move_59 rfl ?_
            refine g_iconst C dR_move_60 ?_
            refine g_callVi C (nargs := 1) (o := 0) (st := []) (m_Rerror hci h) rfl (by decide) hci rfl gd_error (by decide +kernel) ⟨rfl, rfl⟩ dR_move_61 ⟨by decide, by decide⟩ rfl rfl (Nat.le_of_ble_eq_true rfl) ?_
            intro r61c M61 h
            exact hR _ _ _ _ dR_move_64 rfl h
        · replace h := h.2 hc
          refine g_locals (lv' := [(0, .ref (ad 0))]) rfl ?_
          exact pB38  _ h
    · replace h := h.2 hc
      refine g_locals (lv' := [(0, .ref (ad 0))]) rfl ?_
      exact pB14  _ h
def w_Rlacks (a1 : Int) (M : gSt) (k : Int → gSt → Prop) : Prop :=
w_RisSheet a1 M (fun r1c M1 => 
  (¬ wrap r1c = 0 →
    (0 ≤ a1 ∧ a1 < 4) ∧ (
    (¬ wrap (M1 11 a1) = 0 →
      k 0 M1) ∧
    (wrap (M1 11 a1) = 0 →
      k 2 M1))) ∧
  (wrap r1c = 0 →
    k 1 M1))
set_option maxHeartbeats 4000000 in
set_option maxRecDepth 100000 in
theorem m_Rlacks {l : Launch} {D : va_G} {cl : List vw_C} {tys : List (ClassId × FieldType)} {ad : Nat → Nat} {cI : ClassId} {ci : Nat} {Z : (Nat → Prop) → State → Prop} (hci : cl[ci]? = some (RX9, TX9, 23)) {a1 : Int} {M : gSt} {k : Int → gSt → Prop} (h : w_Rlacks a1 M k) : MOi l yX9_lacks cX9_lacks 2 .int (rmR 2 42) D cl ((cI, .int) :: tys) (wR ad cI ci) tR Z [.ref (ad 0), iv a1] M k := by
  refine moi_intro (by decide +kernel) (Nat.le_of_ble_eq_true rfl) wi_296 ?_
  intro p e s m args below meth c A Q C hR
  refine g_locals (lv' := [(0, .ref (ad 0)), (1, iv a1)]) rfl ?_
  unfold w_Rlacks at h
  refine g_iload_n C dR_lacks_0 rfl ?_
  refine g_callSi C (nargs := 1) (st := []) (m_RisSheet hci h) gd_isSheet (by decide +kernel) ⟨rfl, rfl⟩ dR_lacks_1 ⟨by decide, by decide⟩ rfl rfl (Nat.le_of_ble_eq_true rfl) ?_
  intro r1c M1 h
  refine g_if_ne C 11 dR_lacks_4 (by decide) (fun hc => ?_) (fun hc => ?_)
  · replace h := h.1 hc
    refine g_aload_n C dR_lacks_11 rfl ?_
    refine rf_bits C hci dR_lacks_12 ?_
    refine g_iload_n C dR_lacks_15 rfl ?_
    refine g_iald C (n := 4) dR_lacks_16 rfl (by decide) h.1 ?_
    replace h := h.2
    refine g_if_ne C 24 dR_lacks_17 (by decide) (fun hc => ?_) (fun hc => ?_)
    · replace h := h.1 hc
      refine g_iconst C dR_lacks_24 ?_
      exact hR _ _ _ _ dR_lacks_25 rfl h
    · replace h := h.2 hc
      refine g_iconst C dR_lacks_20 ?_
      refine g_goto C 25 dR_lacks_21 (by decide) ?_
      exact hR _ _ _ _ dR_lacks_25 rfl h
  · replace h := h.2 hc
    refine g_iconst C dR_lacks_7 ?_
    refine g_goto C 25 dR_lacks_8 (by decide) ?_
    exact hR _ _ _ _ dR_lacks_25 rfl h
def wC_Rpapers_24 (a1 : Int) (k : Int → gSt → Prop) (r24 : Int → Int → gSt → Prop) (X24_140 : Int → gSt → Prop) (v3 : Int) (v4 : Int) (M : gSt) : Prop :=
(0 ≤ a1 ∧ a1 < 4) ∧ (
  (wrap (M 12 a1) ≤ wrap ((3 * v3) + 2) →
    X24_140 v3 M) ∧
  (wrap ((3 * v3) + 2) < wrap (M 12 a1) →

    (6 ≤ wrap (M 1 3) →
      X24_140 v3 M) ∧
    (wrap (M 1 3) < 6 →
      (0 ≤ v4 + (3 * v3) ∧ v4 + (3 * v3) < 96) ∧ ((0 ≤ (v4 + (3 * v3)) + 1 ∧ (v4 + (3 * v3)) + 1 < 96) ∧ ((0 ≤ (v4 + (3 * v3)) + 2 ∧ (v4 + (3 * v3)) + 2 < 96) ∧ (w_RisPaper (M 13 (v4 + (3 * v3))) (M 13 ((v4 + (3 * v3)) + 1)) (M 13 ((v4 + (3 * v3)) + 2)) M (fun r87c M87 => 
      (wrap r87c = 0 →
        X24_140 v3 M87) ∧
      (¬ wrap r87c = 0 →
        (0 ≤ v4 + (3 * v3) ∧ v4 + (3 * v3) < 96) ∧ ((0 ≤ (v4 + (3 * v3)) + 1 ∧ (v4 + (3 * v3)) + 1 < 96) ∧ ((0 ≤ (v4 + (3 * v3)) + 2 ∧ (v4 + (3 * v3)) + 2 < 96) ∧ (w_RaddPaper (M87 13 (v4 + (3 * v3))) (M87 13 ((v4 + (3 * v3)) + 1)) (M87 13 ((v4 + (3 * v3)) + 2)) M87 (fun M131 => r24 (v3 + 1) v4 M131))))))))))))
def wL_Rpapers_24 (a1 : Int) (k : Int → gSt → Prop)  (X24_140 : Int → gSt → Prop) : Nat → Int → Int → gSt → Prop
  | 0 => fun _ _ _ => False
  | n + 1 => fun v3 v4 M => wC_Rpapers_24 a1 k  (wL_Rpapers_24 a1 k  X24_140 n) X24_140 v3 v4 M
def w_Rpapers (a1 : Int) (M : gSt) (k : Int → gSt → Prop) : Prop :=
w_Rlacks a1 M (fun r2c M2 => 
  (wrap r2c ≤ 0 →
    ∀ x4_22 : Int, x4_22 = 24 * a1 → (∃ n, wL_Rpapers_24 a1 k  (fun u3_24 M24 =>
      k u3_24 M24) n 0 x4_22 M2)) ∧
  (0 < wrap r2c →
    w_Rerror r2c M2 (fun r12c M12 => k r12c M12)))
set_option maxHeartbeats 4000000 in
set_option maxRecDepth 100000 in
theorem m_Rpapers {l : Launch} {D : va_G} {cl : List vw_C} {tys : List (ClassId × FieldType)} {ad : Nat → Nat} {cI : ClassId} {ci : Nat} {Z : (Nat → Prop) → State → Prop} (hci : cl[ci]? = some (RX9, TX9, 23)) {a1 : Int} {M : gSt} {k : Int → gSt → Prop} (h : w_Rpapers a1 M k) : MOi l yX9_papers cX9_papers 5 .int (rmR 3 66) D cl ((cI, .int) :: tys) (wR ad cI ci) tR Z [.ref (ad 0), iv a1] M k := by
  refine moi_intro (by decide +kernel) (Nat.le_of_ble_eq_true rfl) wi_300 ?_
  intro p e s m args below meth c A Q C hR
  have pC24 : ∀ (r24 : Int → Int → gSt → Prop) (X24_140 : Int → gSt → Prop) (hr24 : ∀ (v3 : Int) (v4 : Int) (M : gSt), r24 v3 v4 M → gG p l e (rmR 3 66) s m args below meth c Q D cl A (wR ad cI ci) 5 24 [(0, .ref (ad 0)), (1, iv a1), (3, iv v3), (4, iv v4)] [] M) (hX24_140 : ∀ (v3 : Int) (M : gSt), X24_140 v3 M → gG p l e (rmR 3 66) s m args below meth c Q D cl A (wR ad cI ci) 5 140 [(3, iv v3)] [] M) (v3 : Int) (v4 : Int) (M : gSt), wC_Rpapers_24 a1 k r24 X24_140 v3 v4 M → gG p l e (rmR 3 66) s m args below meth c Q D cl A (wR ad cI ci) 5 24 [(0, .ref (ad 0)), (1, iv a1), (3, iv v3), (4, iv v4)] [] M := by
    intro r24 X24_140 hr24 hX24_140 v3 v4 M h
    unfold wC_Rpapers_24 at h
    refine g_iconst C dR_papers_24 ?_
    refine g_iload_n C dR_papers_25 rfl ?_
    refine g_imul C dR_papers_26 ?_
    refine g_iconst C dR_papers_27 ?_
    refine g_iadd C dR_papers_28 ?_
    refine g_aload_n C dR_papers_29 rfl ?_
    refine rf_sizes C hci dR_papers_30 ?_
    refine g_iload_n C dR_papers_33 rfl ?_
    refine g_iald C (n := 4) dR_papers_34 rfl (by decide) h.1 ?_
    replace h := h.2
    refine g_icmp_ge C 140 dR_papers_35 (by decide) (fun hc => ?_) (fun hc => ?_)
    · replace h := h.1 hc
      refine g_locals (lv' := [(3, iv v3)]) rfl ?_
      exact hX24_140 _  _ h
    · replace h := h.2 hc
      refine g_aload_n C dR_papers_38 rfl ?_
      refine rf_s C hci dR_papers_39 ?_
      refine g_iconst C dR_papers_42 ?_
      refine g_iald C (n := 536) dR_papers_43 rfl (by decide) ⟨by decide, by decide⟩ ?_
      refine g_bipush C dR_papers_44 rfl ?_
      refine g_icmp_ge C 140 dR_papers_46 (by decide) (fun hc => ?_) (fun hc => ?_)
      · replace h := h.1 hc
        refine g_locals (lv' := [(3, iv v3)]) rfl ?_
        exact hX24_140 _  _ h
      · replace h := h.2 hc
        refine g_aload_n C dR_papers_49 rfl ?_
        refine g_aload_n C dR_papers_50 rfl ?_
        refine rf_number C hci dR_papers_51 ?_
        refine g_iload C dR_papers_54 rfl ?_
        refine g_iconst C dR_papers_56 ?_
        refine g_iload_n C dR_papers_57 rfl ?_
        refine g_imul C dR_papers_58 ?_
        refine g_iadd C dR_papers_59 ?_
        refine g_iald C (n := 96) dR_papers_60 rfl (by decide) h.1 ?_
        replace h := h.2
        refine g_aload_n C dR_papers_61 rfl ?_
        refine rf_number C hci dR_papers_62 ?_
        refine g_iload C dR_papers_65 rfl ?_
        refine g_iconst C dR_papers_67 ?_
        refine g_iload_n C dR_papers_68 rfl ?_
        refine g_imul C dR_papers_69 ?_
        refine g_iadd C dR_papers_70 ?_
        refine g_iconst C dR_papers_71 ?_
        refine g_iadd C dR_papers_72 ?_
        refine g_iald C (n := 96) dR_papers_73 rfl (by decide) h.1 ?_
        replace h := h.2
        refine g_aload_n C dR_papers_74 rfl ?_
        refine rf_number C hci dR_papers_75 ?_
        refine g_iload C dR_papers_78 rfl ?_
        refine g_iconst C dR_papers_80 ?_
        refine g_iload_n C dR_papers_81 rfl ?_
        refine g_imul C dR_papers_82 ?_
        refine g_iadd C dR_papers_83 ?_
        refine g_iconst C dR_papers_84 ?_
        refine g_iadd C dR_papers_85 ?_
        refine g_iald C (n := 96) dR_papers_86 rfl (by decide) h.1 ?_
        replace h := h.2
        refine g_callVi C (nargs := 3) (o := 0) (st := []) (m_RisPaper hci h) rfl (by decide) hci rfl gd_isPaper (by decide +kernel) ⟨rfl, rfl⟩ dR_papers_87 ⟨by decide, by decide⟩ rfl rfl (Nat.le_of_ble_eq_true rfl) ?_
        intro r87c M87 h
        refine g_if_eq C 140 dR_papers_90 (by decide) (fun hc => ?_) (fun hc => ?_)
        · replace h := h.1 hc
          refine g_locals (lv' := [(3, iv v3)]) rfl ?_
          exact hX24_140 _  _ h
        · replace h := h.2 hc
          refine g_aload_n C dR_papers_93 rfl ?_
          refine g_aload_n C dR_papers_94 rfl ?_
          refine rf_number C hci dR_papers_95 ?_
          refine g_iload C dR_papers_98 rfl ?_
          refine g_iconst C dR_papers_100 ?_
          refine g_iload_n C dR_papers_101 rfl ?_
          refine g_imul C dR_papers_102 ?_
          refine g_iadd C dR_papers_103 ?_
          refine g_iald C (n := 96) dR_papers_104 rfl (by decide) h.1 ?_
          replace h := h.2
          refine g_aload_n C dR_papers_105 rfl ?_
          refine rf_number C hci dR_papers_106 ?_
          refine g_iload C dR_papers_109 rfl ?_
          refine g_iconst C dR_papers_111 ?_
          refine g_iload_n C dR_papers_112 rfl ?_
          refine g_imul C dR_papers_113 ?_
          refine g_iadd C dR_papers_114 ?_
          refine g_iconst C dR_papers_115 ?_
          refine g_iadd C dR_papers_116 ?_
          refine g_iald C (n := 96) dR_papers_117 rfl (by decide) h.1 ?_
          replace h := h.2
          refine g_aload_n C dR_papers_118 rfl ?_
          refine rf_number C hci dR_papers_119 ?_
          refine g_iload C dR_papers_122 rfl ?_
          refine g_iconst C dR_papers_124 ?_
          refine g_iload_n C dR_papers_125 rfl ?_
          refine g_imul C dR_papers_126 ?_
          refine g_iadd C dR_papers_127 ?_
          refine g_iconst C dR_papers_128 ?_
          refine g_iadd C dR_papers_129 ?_
          refine g_iald C (n := 96) dR_papers_130 rfl (by decide) h.1 ?_
          replace h := h.2
          refine g_callVv C (nargs := 3) (o := 0) (st := []) (m_RaddPaper hci h) rfl (by decide) hci rfl gd_addPaper (by decide +kernel) ⟨rfl, rfl⟩ dR_papers_131 ⟨by decide, by decide⟩ rfl rfl (Nat.le_of_ble_eq_true rfl) ?_
          intro M131 h
          refine g_iinc C dR_papers_134 rfl (by decide) rfl ?_
          refine g_locals (lv' := [(0, .ref (ad 0)), (1, iv a1), (3, iv (v3 + 1)), (4, iv v4)]) rfl ?_
          refine g_goto C 24 dR_papers_137 (by decide) ?_
          refine g_locals (lv' := [(0, .ref (ad 0)), (1, iv a1), (3, iv (v3 + 1)), (4, iv v4)]) rfl ?_
          exact hr24 _ _  _ h
  have pL24 : ∀  (X24_140 : Int → gSt → Prop) (hX24_140 : ∀ (v3 : Int) (M : gSt), X24_140 v3 M → gG p l e (rmR 3 66) s m args below meth c Q D cl A (wR ad cI ci) 5 140 [(3, iv v3)] [] M) (n : Nat) (v3 : Int) (v4 : Int) (M : gSt), wL_Rpapers_24 a1 k  X24_140 n v3 v4 M → gG p l e (rmR 3 66) s m args below meth c Q D cl A (wR ad cI ci) 5 24 [(0, .ref (ad 0)), (1, iv a1), (3, iv v3), (4, iv v4)] [] M := by
    intro  X24_140 hX24_140 n
    induction n with
    | zero => intro v3 v4 M h; exact h.elim
    | succ n ih =>
      intro v3 v4 M h
      exact pC24  (wL_Rpapers_24 a1 k  X24_140 n) X24_140 ih hX24_140 v3 v4 M h
  refine g_locals (lv' := [(0, .ref (ad 0)), (1, iv a1)]) rfl ?_
  unfold w_Rpapers at h
  refine g_aload_n C dR_papers_0 rfl ?_
  refine g_iload_n C dR_papers_1 rfl ?_
  refine g_callVi C (nargs := 1) (o := 0) (st := []) (m_Rlacks hci h) rfl (by decide) hci rfl gd_lacks (by decide +kernel) ⟨rfl, rfl⟩ dR_papers_2 ⟨by decide, by decide⟩ rfl rfl (Nat.le_of_ble_eq_true rfl) ?_
  intro r2c M2 h
  refine g_istore_n C dR_papers_5 (by decide) rfl ?_
  refine g_locals (lv' := [(0, .ref (ad 0)), (1, iv a1), (2, iv r2c)]) rfl ?_
  refine g_iload_n C dR_papers_6 rfl ?_
  refine g_if_le C 16 dR_papers_7 (by decide) (fun hc => ?_) (fun hc => ?_)
  · replace h := h.1 hc
    refine g_iconst C dR_papers_16 ?_
    refine g_istore_n C dR_papers_17 (by decide) rfl ?_
    refine g_locals (lv' := [(0, .ref (ad 0)), (1, iv a1), (2, iv r2c), (3, iv 0)]) rfl ?_
    refine g_bipush C dR_papers_18 rfl ?_
    refine g_iload_n C dR_papers_20 rfl ?_
    refine g_imul C dR_papers_21 ?_
    refine g_name (fun x4_22 hx4_22 => ?_)
    replace h := h x4_22 hx4_22
    refine g_istore C dR_papers_22 (by decide) rfl ?_
    refine g_locals (lv' := [(0, .ref (ad 0)), (1, iv a1), (2, iv r2c), (3, iv 0), (4, iv x4_22)]) rfl ?_
    refine g_locals (lv' := [(0, .ref (ad 0)), (1, iv a1), (3, iv 0), (4, iv x4_22)]) rfl ?_
    obtain ⟨n, h⟩ := h
    refine pL24 _ ?_ n _ _ _ h
    · intro u3_24 M24 h
      refine g_iload_n C dR_papers_140 rfl ?_
      exact hR _ _ _ _ dR_papers_141 rfl h
  · replace h := h.2 hc
    refine g_aload_n C dR_papers_10 rfl ?_
    refine g_iload_n C dR_papers_11 rfl ?_
    refine g_callVi C (nargs := 1) (o := 0) (st := []) (m_Rerror hci h) rfl (by decide) hci rfl gd_error (by decide +kernel) ⟨rfl, rfl⟩ dR_papers_12 ⟨by decide, by decide⟩ rfl rfl (Nat.le_of_ble_eq_true rfl) ?_
    intro r12c M12 h
    exact hR _ _ _ _ dR_papers_15 rfl h
def wC_Rjudge_47 (a1 : Int) (a2 : Int) (k : Int → gSt → Prop) (r47 : Int → gSt → Prop) (X47_97 : Int → gSt → Prop) (v4 : Int) (M : gSt) : Prop :=

  (wrap (M 1 0) ≤ wrap v4 →
    X47_97 v4 M) ∧
  (wrap v4 < wrap (M 1 0) →
    (0 ≤ a1 ∧ a1 < 4) ∧ (
    (wrap (M 12 a1) ≤ wrap v4 →
      X47_97 v4 M) ∧
    (wrap v4 < wrap (M 12 a1) →
      (0 ≤ (24 * a1) + v4 ∧ (24 * a1) + v4 < 96) ∧ (w_Rits v4 2 M (fun r85c M85 => 
      (¬ wrap (M 13 ((24 * a1) + v4)) = wrap r85c →
        X47_97 v4 M85) ∧
      (wrap (M 13 ((24 * a1) + v4)) = wrap r85c →
        r47 (v4 + 1) M85))))))
def wL_Rjudge_47 (a1 : Int) (a2 : Int) (k : Int → gSt → Prop)  (X47_97 : Int → gSt → Prop) : Nat → Int → gSt → Prop
  | 0 => fun _ _ => False
  | n + 1 => fun v4 M => wC_Rjudge_47 a1 a2 k  (wL_Rjudge_47 a1 a2 k  X47_97 n) X47_97 v4 M
def wB_Rjudge_97 (a1 : Int) (a2 : Int) (k : Int → gSt → Prop)  (v4 : Int) (M : gSt) : Prop :=
w_Rcarry 3 1 M (fun M105 => k v4 M105)
def wB_Rjudge_17 (a1 : Int) (a2 : Int) (k : Int → gSt → Prop)  (s0 : Int) (M : gSt) : Prop :=

  (wrap s0 ≤ 0 →
    w_Rcarry 1 3 M (fun M36 => w_RgoesBy a2 M36 (fun M41 => ∃ n, wL_Rjudge_47 a1 a2 k  (fun u4_47 M47 =>
      wB_Rjudge_97 a1 a2 k  u4_47 M47) n 0 M41))) ∧
  (0 < wrap s0 →
    w_Rerror s0 M (fun r24c M24 => k r24c M24))
def w_Rjudge (a1 : Int) (a2 : Int) (M : gSt) (k : Int → gSt → Prop) : Prop :=
w_RisHistory a2 M (fun r2c M2 => 
  (wrap r2c = 0 →
    wB_Rjudge_17 a1 a2 k  1 M2) ∧
  (¬ wrap r2c = 0 →
    w_Rlacks a1 M2 (fun r10c M10 => wB_Rjudge_17 a1 a2 k  r10c M10)))
set_option maxHeartbeats 4000000 in
set_option maxRecDepth 100000 in
theorem m_Rjudge {l : Launch} {D : va_G} {cl : List vw_C} {tys : List (ClassId × FieldType)} {ad : Nat → Nat} {cI : ClassId} {ci : Nat} {Z : (Nat → Prop) → State → Prop} (hci : cl[ci]? = some (RX9, TX9, 23)) {a1 : Int} {a2 : Int} {M : gSt} {k : Int → gSt → Prop} (h : w_Rjudge a1 a2 M k) : MOi l yX9_judge cX9_judge 5 .int (rmR 3 75) D cl ((cI, .int) :: tys) (wR ad cI ci) tR Z [.ref (ad 0), iv a1, iv a2] M k := by
  refine moi_intro (by decide +kernel) (Nat.le_of_ble_eq_true rfl) wi_301 ?_
  intro p e s m args below meth c A Q C hR
  have pC47 : ∀ (r47 : Int → gSt → Prop) (X47_97 : Int → gSt → Prop) (hr47 : ∀ (v4 : Int) (M : gSt), r47 v4 M → gG p l e (rmR 3 75) s m args below meth c Q D cl A (wR ad cI ci) 5 47 [(0, .ref (ad 0)), (1, iv a1), (4, iv v4)] [] M) (hX47_97 : ∀ (v4 : Int) (M : gSt), X47_97 v4 M → gG p l e (rmR 3 75) s m args below meth c Q D cl A (wR ad cI ci) 5 97 [(0, .ref (ad 0)), (4, iv v4)] [] M) (v4 : Int) (M : gSt), wC_Rjudge_47 a1 a2 k r47 X47_97 v4 M → gG p l e (rmR 3 75) s m args below meth c Q D cl A (wR ad cI ci) 5 47 [(0, .ref (ad 0)), (1, iv a1), (4, iv v4)] [] M := by
    intro r47 X47_97 hr47 hX47_97 v4 M h
    unfold wC_Rjudge_47 at h
    refine g_iload C dR_judge_47 rfl ?_
    refine g_aload_n C dR_judge_49 rfl ?_
    refine rf_s C hci dR_judge_50 ?_
    refine g_iconst C dR_judge_53 ?_
    refine g_iald C (n := 536) dR_judge_54 rfl (by decide) ⟨by decide, by decide⟩ ?_
    refine g_icmp_ge C 97 dR_judge_55 (by decide) (fun hc => ?_) (fun hc => ?_)
    · replace h := h.1 hc
      refine g_locals (lv' := [(0, .ref (ad 0)), (4, iv v4)]) rfl ?_
      exact hX47_97 _  _ h
    · replace h := h.2 hc
      refine g_iload C dR_judge_58 rfl ?_
      refine g_aload_n C dR_judge_60 rfl ?_
      refine rf_sizes C hci dR_judge_61 ?_
      refine g_iload_n C dR_judge_64 rfl ?_
      refine g_iald C (n := 4) dR_judge_65 rfl (by decide) h.1 ?_
      replace h := h.2
      refine g_icmp_ge C 97 dR_judge_66 (by decide) (fun hc => ?_) (fun hc => ?_)
      · replace h := h.1 hc
        refine g_locals (lv' := [(0, .ref (ad 0)), (4, iv v4)]) rfl ?_
        exact hX47_97 _  _ h
      · replace h := h.2 hc
        refine g_aload_n C dR_judge_69 rfl ?_
        refine rf_number C hci dR_judge_70 ?_
        refine g_bipush C dR_judge_73 rfl ?_
        refine g_iload_n C dR_judge_75 rfl ?_
        refine g_imul C dR_judge_76 ?_
        refine g_iload C dR_judge_77 rfl ?_
        refine g_iadd C dR_judge_79 ?_
        refine g_iald C (n := 96) dR_judge_80 rfl (by decide) h.1 ?_
        replace h := h.2
        refine g_aload_n C dR_judge_81 rfl ?_
        refine g_iload C dR_judge_82 rfl ?_
        refine g_iconst C dR_judge_84 ?_
        refine g_callVi C (nargs := 2) (o := 0) (st := [iv (M 13 ((24 * a1) + v4))]) (m_Rits hci h) rfl (by decide) hci rfl gd_its (by decide +kernel) ⟨rfl, rfl⟩ dR_judge_85 ⟨by decide, by decide⟩ rfl rfl (Nat.le_of_ble_eq_true rfl) ?_
        intro r85c M85 h
        refine g_icmp_ne C 97 dR_judge_88 (by decide) (fun hc => ?_) (fun hc => ?_)
        · replace h := h.1 hc
          refine g_locals (lv' := [(0, .ref (ad 0)), (4, iv v4)]) rfl ?_
          exact hX47_97 _  _ h
        · replace h := h.2 hc
          refine g_iinc C dR_judge_91 rfl (by decide) rfl ?_
          refine g_locals (lv' := [(0, .ref (ad 0)), (1, iv a1), (4, iv (v4 + 1))]) rfl ?_
          refine g_goto C 47 dR_judge_94 (by decide) ?_
          refine g_locals (lv' := [(0, .ref (ad 0)), (1, iv a1), (4, iv (v4 + 1))]) rfl ?_
          exact hr47 _  _ h
  have pL47 : ∀  (X47_97 : Int → gSt → Prop) (hX47_97 : ∀ (v4 : Int) (M : gSt), X47_97 v4 M → gG p l e (rmR 3 75) s m args below meth c Q D cl A (wR ad cI ci) 5 97 [(0, .ref (ad 0)), (4, iv v4)] [] M) (n : Nat) (v4 : Int) (M : gSt), wL_Rjudge_47 a1 a2 k  X47_97 n v4 M → gG p l e (rmR 3 75) s m args below meth c Q D cl A (wR ad cI ci) 5 47 [(0, .ref (ad 0)), (1, iv a1), (4, iv v4)] [] M := by
    intro  X47_97 hX47_97 n
    induction n with
    | zero => intro v4 M h; exact h.elim
    | succ n ih =>
      intro v4 M h
      exact pC47  (wL_Rjudge_47 a1 a2 k  X47_97 n) X47_97 ih hX47_97 v4 M h
  have pB97 : ∀   (v4 : Int) (M : gSt), wB_Rjudge_97 a1 a2 k  v4 M → gG p l e (rmR 3 75) s m args below meth c Q D cl A (wR ad cI ci) 5 97 [(0, .ref (ad 0)), (4, iv v4)] [] M := by
    intro   v4 M h
    unfold wB_Rjudge_97 at h
    refine g_aload_n C dR_judge_97 rfl ?_
    refine rf_put C hci dR_judge_98 ?_
    refine g_aload_n C dR_judge_101 rfl ?_
    refine rf_s C hci dR_judge_102 ?_
    refine g_callSv C (nargs := 2) (st := []) (m_Rcarry hci h) gd_carry (by decide +kernel) ⟨rfl, rfl⟩ dR_judge_105 ⟨by decide, by decide⟩ rfl rfl (Nat.le_of_ble_eq_true rfl) ?_
    intro M105 h
    refine g_iload C dR_judge_108 rfl ?_
    exact hR _ _ _ _ dR_judge_110 rfl h
  have pB17 : ∀   (s0 : Int) (M : gSt), wB_Rjudge_17 a1 a2 k  s0 M → gG p l e (rmR 3 75) s m args below meth c Q D cl A (wR ad cI ci) 5 17 [(0, .ref (ad 0)), (1, iv a1), (2, iv a2)] [iv s0] M := by
    intro   s0 M h
    unfold wB_Rjudge_17 at h
    refine g_istore_n C dR_judge_17 (by decide) rfl ?_
    refine g_locals (lv' := [(0, .ref (ad 0)), (1, iv a1), (2, iv a2), (3, iv s0)]) rfl ?_
    refine g_iload_n C dR_judge_18 rfl ?_
    refine g_if_le C 28 dR_judge_19 (by decide) (fun hc => ?_) (fun hc => ?_)
    · replace h := h.1 hc
      refine g_aload_n C dR_judge_28 rfl ?_
      refine rf_s C hci dR_judge_29 ?_
      refine g_aload_n C dR_judge_32 rfl ?_
      refine rf_put C hci dR_judge_33 ?_
      refine g_callSv C (nargs := 2) (st := []) (m_Rcarry hci h) gd_carry (by decide +kernel) ⟨rfl, rfl⟩ dR_judge_36 ⟨by decide, by decide⟩ rfl rfl (Nat.le_of_ble_eq_true rfl) ?_
      intro M36 h
      refine g_aload_n C dR_judge_39 rfl ?_
      refine g_iload_n C dR_judge_40 rfl ?_
      refine g_callVv C (nargs := 1) (o := 0) (st := []) (m_RgoesBy hci h) rfl (by decide) hci rfl gd_goesBy (by decide +kernel) ⟨rfl, rfl⟩ dR_judge_41 ⟨by decide, by decide⟩ rfl rfl (Nat.le_of_ble_eq_true rfl) ?_
      intro M41 h
      refine g_iconst C dR_judge_44 ?_
      refine g_istore C dR_judge_45 (by decide) rfl ?_
      refine g_locals (lv' := [(0, .ref (ad 0)), (1, iv a1), (2, iv a2), (3, iv s0), (4, iv 0)]) rfl ?_
      refine g_locals (lv' := [(0, .ref (ad 0)), (1, iv a1), (4, iv 0)]) rfl ?_
      obtain ⟨n, h⟩ := h
      refine pL47 _ ?_ n _ _ h
      · intro u4_47 M47 h
        refine g_locals (lv' := [(0, .ref (ad 0)), (4, iv u4_47)]) rfl ?_
        exact pB97 _ _ h
    · replace h := h.2 hc
      refine g_aload_n C dR_judge_22 rfl ?_
      refine g_iload_n C dR_judge_23 rfl ?_
      refine g_callVi C (nargs := 1) (o := 0) (st := []) (m_Rerror hci h) rfl (by decide) hci rfl gd_error (by decide +kernel) ⟨rfl, rfl⟩ dR_judge_24 ⟨by decide, by decide⟩ rfl rfl (Nat.le_of_ble_eq_true rfl) ?_
      intro r24c M24 h
      exact hR _ _ _ _ dR_judge_27 rfl h
  refine g_locals (lv' := [(0, .ref (ad 0)), (1, iv a1), (2, iv a2)]) rfl ?_
  unfold w_Rjudge at h
  refine g_aload_n C dR_judge_0 rfl ?_
  refine g_iload_n C dR_judge_1 rfl ?_
  refine g_callVi C (nargs := 1) (o := 0) (st := []) (m_RisHistory hci h) rfl (by decide) hci rfl gd_isHistory (by decide +kernel) ⟨rfl, rfl⟩ dR_judge_2 ⟨by decide, by decide⟩ rfl rfl (Nat.le_of_ble_eq_true rfl) ?_
  intro r2c M2 h
  refine g_if_eq C 16 dR_judge_5 (by decide) (fun hc => ?_) (fun hc => ?_)
  · replace h := h.1 hc
    refine g_iconst C dR_judge_16 ?_
    refine g_locals (lv' := [(0, .ref (ad 0)), (1, iv a1), (2, iv a2)]) rfl ?_
    exact pB17 _ _ h
  · replace h := h.2 hc
    refine g_aload_n C dR_judge_8 rfl ?_
    refine g_iload_n C dR_judge_9 rfl ?_
    refine g_callVi C (nargs := 1) (o := 0) (st := []) (m_Rlacks hci h) rfl (by decide) hci rfl gd_lacks (by decide +kernel) ⟨rfl, rfl⟩ dR_judge_10 ⟨by decide, by decide⟩ rfl rfl (Nat.le_of_ble_eq_true rfl) ?_
    intro r10c M10 h
    refine g_goto C 17 dR_judge_13 (by decide) ?_
    refine g_locals (lv' := [(0, .ref (ad 0)), (1, iv a1), (2, iv a2)]) rfl ?_
    exact pB17 _ _ h
def w_Rimage  (M : gSt) (k : Int → gSt → Prop) : Prop :=
w_Rcarry 1 2 M (fun M8 => ∀ M18 : gSt, M18 = wr M8 0 3 ((M8 0 3) + 1) → (k (M18 0 3) M18))
set_option maxHeartbeats 4000000 in
set_option maxRecDepth 100000 in
theorem m_Rimage {l : Launch} {D : va_G} {cl : List vw_C} {tys : List (ClassId × FieldType)} {ad : Nat → Nat} {cI : ClassId} {ci : Nat} {Z : (Nat → Prop) → State → Prop} (hci : cl[ci]? = some (RX9, TX9, 23))  {M : gSt} {k : Int → gSt → Prop} (h : w_Rimage  M k) : MOi l yX9_image cX9_image 1 .int (rmR 1 22) D cl ((cI, .int) :: tys) (wR ad cI ci) tR Z [.ref (ad 0)] M k := by
  refine moi_intro (by decide +kernel) (Nat.le_of_ble_eq_true rfl) wi_303 ?_
  intro p e s m args below meth c A Q C hR
  refine g_locals (lv' := [(0, .ref (ad 0))]) rfl ?_
  unfold w_Rimage at h
  refine g_aload_n C dR_image_0 rfl ?_
  refine rf_s C hci dR_image_1 ?_
  refine g_aload_n C dR_image_4 rfl ?_
  refine rf_kept C hci dR_image_5 ?_
  refine g_callSv C (nargs := 2) (st := []) (m_Rcarry hci h) gd_carry (by decide +kernel) ⟨rfl, rfl⟩ dR_image_8 ⟨by decide, by decide⟩ rfl rfl (Nat.le_of_ble_eq_true rfl) ?_
  intro M8 h
  refine g_aload_n C dR_image_11 rfl ?_
  refine g_dup C dR_image_12 rfl ?_
  refine rf_images C hci dR_image_13 ?_
  refine g_iconst C dR_image_16 ?_
  refine g_iadd C dR_image_17 ?_
  refine rp_images C hci dR_image_18 ?_
  refine g_memname (fun M18 hM18 => ?_)
  replace h := h M18 hM18
  refine g_aload_n C dR_image_21 rfl ?_
  refine rf_images C hci dR_image_22 ?_
  exact hR _ _ _ _ dR_image_25 rfl h
def w_Rrestore  (M : gSt) (k : Int → gSt → Prop) : Prop :=

  (¬ wrap (M 0 3) = 0 →
    w_Rcarry 2 1 M (fun M21 => k (M21 1 5) M21)) ∧
  (wrap (M 0 3) = 0 →
    w_Rerror 2 M (fun r9c M9 => k r9c M9))
set_option maxHeartbeats 4000000 in
set_option maxRecDepth 100000 in
theorem m_Rrestore {l : Launch} {D : va_G} {cl : List vw_C} {tys : List (ClassId × FieldType)} {ad : Nat → Nat} {cI : ClassId} {ci : Nat} {Z : (Nat → Prop) → State → Prop} (hci : cl[ci]? = some (RX9, TX9, 23))  {M : gSt} {k : Int → gSt → Prop} (h : w_Rrestore  M k) : MOi l yX9_restore cX9_restore 1 .int (rmR 1 22) D cl ((cI, .int) :: tys) (wR ad cI ci) tR Z [.ref (ad 0)] M k := by
  refine moi_intro (by decide +kernel) (Nat.le_of_ble_eq_true rfl) wi_304 ?_
  intro p e s m args below meth c A Q C hR
  refine g_locals (lv' := [(0, .ref (ad 0))]) rfl ?_
  unfold w_Rrestore at h
  refine g_aload_n C dR_restore_0 rfl ?_
  refine rf_images C hci dR_restore_1 ?_
  refine g_if_ne C 13 dR_restore_4 (by decide) (fun hc => ?_) (fun hc => ?_)
  · replace h := h.1 hc
    refine g_aload_n C dR_restore_13 rfl ?_
    refine rf_kept C hci dR_restore_14 ?_
    refine g_aload_n C dR_restore_17 rfl ?_
    refine rf_s C hci dR_restore_18 ?_
    refine g_callSv C (nargs := 2) (st := []) (m_Rcarry hci h) gd_carry (by decide +kernel) ⟨rfl, rfl⟩ dR_restore_21 ⟨by decide, by decide⟩ rfl rfl (Nat.le_of_ble_eq_true rfl) ?_
    intro M21 h
    refine g_aload_n C dR_restore_24 rfl ?_
    refine rf_s C hci dR_restore_25 ?_
    refine g_iconst C dR_restore_28 ?_
    refine g_iald C (n := 536) dR_restore_29 rfl (by decide) ⟨by decide, by decide⟩ ?_
    exact hR _ _ _ _ dR_restore_30 rfl h
  · replace h := h.2 hc
    refine g_aload_n C dR_restore_7 rfl ?_
    refine g_iconst C dR_restore_8 ?_
    refine g_callVi C (nargs := 1) (o := 0) (st := []) (m_Rerror hci h) rfl (by decide) hci rfl gd_error (by decide +kernel) ⟨rfl, rfl⟩ dR_restore_9 ⟨by decide, by decide⟩ rfl rfl (Nat.le_of_ble_eq_true rfl) ?_
    intro r9c M9 h
    exact hR _ _ _ _ dR_restore_12 rfl h
def w_Rtell (a1 : Int) (M : gSt) (k : Int → gSt → Prop) : Prop :=

  (¬ wrap (M 1 7) = 24 →
    (0 ≤ 512 + (M 1 7) ∧ 512 + (M 1 7) < 536) ∧ (∀ M34 : gSt, M34 = wr M 1 (512 + (M 1 7)) a1 → (∀ M45 : gSt, M45 = wr M34 1 7 ((M34 1 7) + 1) → (k (M45 1 7) M45)))) ∧
  (wrap (M 1 7) = 24 →
    w_Rerror 4 M (fun r14c M14 => k r14c M14))
set_option maxHeartbeats 4000000 in
set_option maxRecDepth 100000 in
theorem m_Rtell {l : Launch} {D : va_G} {cl : List vw_C} {tys : List (ClassId × FieldType)} {ad : Nat → Nat} {cI : ClassId} {ci : Nat} {Z : (Nat → Prop) → State → Prop} (hci : cl[ci]? = some (RX9, TX9, 23)) {a1 : Int} {M : gSt} {k : Int → gSt → Prop} (h : w_Rtell a1 M k) : MOi l yX9_tell cX9_tell 2 .int (rmR 1 21) D cl ((cI, .int) :: tys) (wR ad cI ci) tR Z [.ref (ad 0), iv a1] M k := by
  refine moi_intro (by decide +kernel) (Nat.le_of_ble_eq_true rfl) wi_305 ?_
  intro p e s m args below meth c A Q C hR
  refine g_locals (lv' := [(0, .ref (ad 0)), (1, iv a1)]) rfl ?_
  unfold w_Rtell at h
  refine g_aload_n C dR_tell_0 rfl ?_
  refine rf_s C hci dR_tell_1 ?_
  refine g_bipush C dR_tell_4 rfl ?_
  refine g_iald C (n := 536) dR_tell_6 rfl (by decide) ⟨by decide, by decide⟩ ?_
  refine g_bipush C dR_tell_7 rfl ?_
  refine g_icmp_ne C 18 dR_tell_9 (by decide) (fun hc => ?_) (fun hc => ?_)
  · replace h := h.1 hc
    refine g_aload_n C dR_tell_18 rfl ?_
    refine rf_s C hci dR_tell_19 ?_
    refine g_sipush C dR_tell_22 rfl ?_
    refine g_aload_n C dR_tell_25 rfl ?_
    refine rf_s C hci dR_tell_26 ?_
    refine g_bipush C dR_tell_29 rfl ?_
    refine g_iald C (n := 536) dR_tell_31 rfl (by decide) ⟨by decide, by decide⟩ ?_
    refine g_iadd C dR_tell_32 ?_
    refine g_iload_n C dR_tell_33 rfl ?_
    refine g_iast C (n := 536) dR_tell_34 rfl (by decide) h.1 ?_
    replace h := h.2
    refine g_memname (fun M34 hM34 => ?_)
    replace h := h M34 hM34
    refine g_aload_n C dR_tell_35 rfl ?_
    refine rf_s C hci dR_tell_36 ?_
    refine g_bipush C dR_tell_39 rfl ?_
    refine g_dup2 C dR_tell_41 rfl rfl ?_
    refine g_iald C (n := 536) dR_tell_42 rfl (by decide) ⟨by decide, by decide⟩ ?_
    refine g_iconst C dR_tell_43 ?_
    refine g_iadd C dR_tell_44 ?_
    refine g_iast C (n := 536) dR_tell_45 rfl (by decide) ⟨by decide, by decide⟩ ?_
    refine g_memname (fun M45 hM45 => ?_)
    replace h := h M45 hM45
    refine g_aload_n C dR_tell_46 rfl ?_
    refine rf_s C hci dR_tell_47 ?_
    refine g_bipush C dR_tell_50 rfl ?_
    refine g_iald C (n := 536) dR_tell_52 rfl (by decide) ⟨by decide, by decide⟩ ?_
    exact hR _ _ _ _ dR_tell_53 rfl h
  · replace h := h.2 hc
    refine g_aload_n C dR_tell_12 rfl ?_
    refine g_iconst C dR_tell_13 ?_
    refine g_callVi C (nargs := 1) (o := 0) (st := []) (m_Rerror hci h) rfl (by decide) hci rfl gd_error (by decide +kernel) ⟨rfl, rfl⟩ dR_tell_14 ⟨by decide, by decide⟩ rfl rfl (Nat.le_of_ble_eq_true rfl) ?_
    intro r14c M14 h
    exact hR _ _ _ _ dR_tell_17 rfl h
def wC_Rcheck_22  (k : Int → gSt → Prop) (r22 : Int → Int → gSt → Prop) (X22_60 : Int → Int → gSt → Prop) (v1 : Int) (v2 : Int) (M : gSt) : Prop :=

  (wrap v1 ≤ wrap v2 →
    X22_60 v1 v2 M) ∧
  (wrap v2 < wrap v1 →

    (wrap (M 0 13) ≤ wrap v2 →
      X22_60 v1 v2 M) ∧
    (wrap v2 < wrap (M 0 13) →
      (0 ≤ 512 + v2 ∧ 512 + v2 < 536) ∧ ((0 ≤ v2 ∧ v2 < 64) ∧ (
      (¬ wrap (M 1 (512 + v2)) = wrap (M 8 v2) →
        X22_60 v1 v2 M) ∧
      (wrap (M 1 (512 + v2)) = wrap (M 8 v2) →
        r22 v1 (v2 + 1) M)))))
def wL_Rcheck_22  (k : Int → gSt → Prop)  (X22_60 : Int → Int → gSt → Prop) : Nat → Int → Int → gSt → Prop
  | 0 => fun _ _ _ => False
  | n + 1 => fun v1 v2 M => wC_Rcheck_22  k  (wL_Rcheck_22  k  X22_60 n) X22_60 v1 v2 M
def wB_Rcheck_60  (k : Int → gSt → Prop)  (v1 : Int) (v2 : Int) (M : gSt) : Prop :=

  (¬ wrap v2 = wrap v1 →
    k (1 + v2) M) ∧
  (wrap v2 = wrap v1 →

    (¬ wrap v2 = wrap (M 0 13) →
      k (1 + v2) M) ∧
    (wrap v2 = wrap (M 0 13) →
      k 0 M))
def w_Rcheck  (M : gSt) (k : Int → gSt → Prop) : Prop :=
∀ x1_7 : Int, x1_7 = M 1 7 → (∀ M15 : gSt, M15 = wr M 1 7 0 → (w_RfindFits  M15 (fun M17 => ∃ n, wL_Rcheck_22  k  (fun u1_22 u2_22 M22 =>
    wB_Rcheck_60  k  u1_22 u2_22 M22) n x1_7 0 M17)))
set_option maxHeartbeats 4000000 in
set_option maxRecDepth 100000 in
theorem m_Rcheck {l : Launch} {D : va_G} {cl : List vw_C} {tys : List (ClassId × FieldType)} {ad : Nat → Nat} {cI : ClassId} {ci : Nat} {Z : (Nat → Prop) → State → Prop} (hci : cl[ci]? = some (RX9, TX9, 23))  {M : gSt} {k : Int → gSt → Prop} (h : w_Rcheck  M k) : MOi l yX9_check cX9_check 3 .int (rmR 5 121) D cl ((cI, .int) :: tys) (wR ad cI ci) tR Z [.ref (ad 0)] M k := by
  refine moi_intro (by decide +kernel) (Nat.le_of_ble_eq_true rfl) wi_306 ?_
  intro p e s m args below meth c A Q C hR
  have pC22 : ∀ (r22 : Int → Int → gSt → Prop) (X22_60 : Int → Int → gSt → Prop) (hr22 : ∀ (v1 : Int) (v2 : Int) (M : gSt), r22 v1 v2 M → gG p l e (rmR 5 121) s m args below meth c Q D cl A (wR ad cI ci) 3 22 [(0, .ref (ad 0)), (1, iv v1), (2, iv v2)] [] M) (hX22_60 : ∀ (v1 : Int) (v2 : Int) (M : gSt), X22_60 v1 v2 M → gG p l e (rmR 5 121) s m args below meth c Q D cl A (wR ad cI ci) 3 60 [(0, .ref (ad 0)), (1, iv v1), (2, iv v2)] [] M) (v1 : Int) (v2 : Int) (M : gSt), wC_Rcheck_22  k r22 X22_60 v1 v2 M → gG p l e (rmR 5 121) s m args below meth c Q D cl A (wR ad cI ci) 3 22 [(0, .ref (ad 0)), (1, iv v1), (2, iv v2)] [] M := by
    intro r22 X22_60 hr22 hX22_60 v1 v2 M h
    unfold wC_Rcheck_22 at h
    refine g_iload_n C dR_check_22 rfl ?_
    refine g_iload_n C dR_check_23 rfl ?_
    refine g_icmp_ge C 60 dR_check_24 (by decide) (fun hc => ?_) (fun hc => ?_)
    · replace h := h.1 hc
      refine g_locals (lv' := [(0, .ref (ad 0)), (1, iv v1), (2, iv v2)]) rfl ?_
      exact hX22_60 _ _  _ h
    · replace h := h.2 hc
      refine g_iload_n C dR_check_27 rfl ?_
      refine g_aload_n C dR_check_28 rfl ?_
      refine rf_many C hci dR_check_29 ?_
      refine g_icmp_ge C 60 dR_check_32 (by decide) (fun hc => ?_) (fun hc => ?_)
      · replace h := h.1 hc
        refine g_locals (lv' := [(0, .ref (ad 0)), (1, iv v1), (2, iv v2)]) rfl ?_
        exact hX22_60 _ _  _ h
      · replace h := h.2 hc
        refine g_aload_n C dR_check_35 rfl ?_
        refine rf_s C hci dR_check_36 ?_
        refine g_sipush C dR_check_39 rfl ?_
        refine g_iload_n C dR_check_42 rfl ?_
        refine g_iadd C dR_check_43 ?_
        refine g_iald C (n := 536) dR_check_44 rfl (by decide) h.1 ?_
        replace h := h.2
        refine g_aload_n C dR_check_45 rfl ?_
        refine rf_fit C hci dR_check_46 ?_
        refine g_iload_n C dR_check_49 rfl ?_
        refine g_iald C (n := 64) dR_check_50 rfl (by decide) h.1 ?_
        replace h := h.2
        refine g_icmp_ne C 60 dR_check_51 (by decide) (fun hc => ?_) (fun hc => ?_)
        · replace h := h.1 hc
          refine g_locals (lv' := [(0, .ref (ad 0)), (1, iv v1), (2, iv v2)]) rfl ?_
          exact hX22_60 _ _  _ h
        · replace h := h.2 hc
          refine g_iinc C dR_check_54 rfl (by decide) rfl ?_
          refine g_locals (lv' := [(0, .ref (ad 0)), (1, iv v1), (2, iv (v2 + 1))]) rfl ?_
          refine g_goto C 22 dR_check_57 (by decide) ?_
          refine g_locals (lv' := [(0, .ref (ad 0)), (1, iv v1), (2, iv (v2 + 1))]) rfl ?_
          exact hr22 _ _  _ h
  have pL22 : ∀  (X22_60 : Int → Int → gSt → Prop) (hX22_60 : ∀ (v1 : Int) (v2 : Int) (M : gSt), X22_60 v1 v2 M → gG p l e (rmR 5 121) s m args below meth c Q D cl A (wR ad cI ci) 3 60 [(0, .ref (ad 0)), (1, iv v1), (2, iv v2)] [] M) (n : Nat) (v1 : Int) (v2 : Int) (M : gSt), wL_Rcheck_22  k  X22_60 n v1 v2 M → gG p l e (rmR 5 121) s m args below meth c Q D cl A (wR ad cI ci) 3 22 [(0, .ref (ad 0)), (1, iv v1), (2, iv v2)] [] M := by
    intro  X22_60 hX22_60 n
    induction n with
    | zero => intro v1 v2 M h; exact h.elim
    | succ n ih =>
      intro v1 v2 M h
      exact pC22  (wL_Rcheck_22  k  X22_60 n) X22_60 ih hX22_60 v1 v2 M h
  have pB60 : ∀   (v1 : Int) (v2 : Int) (M : gSt), wB_Rcheck_60  k  v1 v2 M → gG p l e (rmR 5 121) s m args below meth c Q D cl A (wR ad cI ci) 3 60 [(0, .ref (ad 0)), (1, iv v1), (2, iv v2)] [] M := by
    intro   v1 v2 M h
    unfold wB_Rcheck_60 at h
    refine g_iload_n C dR_check_60 rfl ?_
    refine g_iload_n C dR_check_61 rfl ?_
    refine g_icmp_ne C 77 dR_check_62 (by decide) (fun hc => ?_) (fun hc => ?_)
    · replace h := h.1 hc
      refine g_iconst C dR_check_77 ?_
      refine g_iload_n C dR_check_78 rfl ?_
      refine g_iadd C dR_check_79 ?_
      exact hR _ _ _ _ dR_check_80 rfl h
    · replace h := h.2 hc
      refine g_iload_n C dR_check_65 rfl ?_
      refine g_aload_n C dR_check_66 rfl ?_
      refine rf_many C hci dR_check_67 ?_
      refine g_icmp_ne C 77 dR_check_70 (by decide) (fun hc => ?_) (fun hc => ?_)
      · replace h := h.1 hc
        refine g_iconst C dR_check_77 ?_
        refine g_iload_n C dR_check_78 rfl ?_
        refine g_iadd C dR_check_79 ?_
        exact hR _ _ _ _ dR_check_80 rfl h
      · replace h := h.2 hc
        refine g_iconst C dR_check_73 ?_
        refine g_goto C 80 dR_check_74 (by decide) ?_
        exact hR _ _ _ _ dR_check_80 rfl h
  refine g_locals (lv' := [(0, .ref (ad 0))]) rfl ?_
  unfold w_Rcheck at h
  refine g_aload_n C dR_check_0 rfl ?_
  refine rf_s C hci dR_check_1 ?_
  refine g_bipush C dR_check_4 rfl ?_
  refine g_iald C (n := 536) dR_check_6 rfl (by decide) ⟨by decide, by decide⟩ ?_
  refine g_name (fun x1_7 hx1_7 => ?_)
  replace h := h x1_7 hx1_7
  refine g_istore_n C dR_check_7 (by decide) rfl ?_
  refine g_locals (lv' := [(0, .ref (ad 0)), (1, iv x1_7)]) rfl ?_
  refine g_aload_n C dR_check_8 rfl ?_
  refine rf_s C hci dR_check_9 ?_
  refine g_bipush C dR_check_12 rfl ?_
  refine g_iconst C dR_check_14 ?_
  refine g_iast C (n := 536) dR_check_15 rfl (by decide) ⟨by decide, by decide⟩ ?_
  refine g_memname (fun M15 hM15 => ?_)
  replace h := h M15 hM15
  refine g_aload_n C dR_check_16 rfl ?_
  refine g_callVv C (nargs := 0) (o := 0) (st := []) (m_RfindFits hci h) rfl (by decide) hci rfl gd_findFits (by decide +kernel) ⟨rfl, rfl⟩ dR_check_17 ⟨by decide, by decide⟩ rfl rfl (Nat.le_of_ble_eq_true rfl) ?_
  intro M17 h
  refine g_iconst C dR_check_20 ?_
  refine g_istore_n C dR_check_21 (by decide) rfl ?_
  refine g_locals (lv' := [(0, .ref (ad 0)), (1, iv x1_7), (2, iv 0)]) rfl ?_
  refine g_locals (lv' := [(0, .ref (ad 0)), (1, iv x1_7), (2, iv 0)]) rfl ?_
  obtain ⟨n, h⟩ := h
  refine pL22 _ ?_ n _ _ _ h
  · intro u1_22 u2_22 M22 h
    refine g_locals (lv' := [(0, .ref (ad 0)), (1, iv u1_22), (2, iv u2_22)]) rfl ?_
    exact pB60 _ _ _ h
