-- ===== THE LAW: its cases, 4 =====
set_option maxHeartbeats 4000000 in
set_option maxRecDepth 100000 in
theorem law_sheet {p : Program} {l : Launch} {e : Env} {s : State} {m : MethodId} {below : List Frame} {meth : Method} {c : Code} {H : Heap} {locs : List Loc} {Z : State → Prop} {E : kE} {Q : Nat → Nat} {b L i : Nat} {xs : Nat → Int32} {ls : Array Slot} (K : lawK E b L xs p s m meth c) (hi : i + 6 ≤ L) (hI : Inv E Q (AA s) H) (hS : va_S (AA s) s.heap H locs) (hl : lv_has ls 4 (lawL b (Q 0) (Q 34) i)) (kk : ∀ (H : Heap) (locs : List Loc), Inv E Q (AA s) H → va_S (AA s) s.heap H locs → W p l e room_1 s m #[Value.ref b] below meth c H locs 47 1498 Z (F0 m 1428 ls [])) : W p l e room_1 s m #[Value.ref b] below meth c H locs 47 1498 Z (F0 m 1084 ls []) := by
  obtain ⟨C, hK, hT, hX, hbl, hL⟩ := id K
  obtain ⟨hx, hb, hr, hml, hown, hw, hlocks⟩ := id C
  have hA : ∀ q : Nat, s.heap.size ≤ q → AA s q := fun _ h => h
  obtain ⟨ik, pn, ph, ps, en, eh, es, tn, th, ts, tpl, tat, ksz, kln, cch, cmo, mik, mmo, mtd, mhe, mfa, mva, pb, pk, pf, pd, eb, ek, ef, ed, tb, tk, tf, td, tpb, kty, kst, kvl, shw, shz, cst, cwo, fo, ms, mke, mbe, mfi, msh, mwo, mst, mta, mbi, mlo, shn, mce, mbt, hRel, hP, hD⟩ := hI
  obtain ⟨hF, ⟨B, K0, F, D, N, H0, S, hPl⟩, hIk, ⟨T, rfl, rfl, hTp⟩, Z0, hSh⟩ := hRel
  refine lv_aload_n hx hb dL_law_1084 rfl (lv_at hl 1 rfl) ?_
  refine law_ld K hi hS hl (k := 1) (by decide) (by decide) dL_law_1085 dL_law_1086 dL_law_1087 dL_law_1088 dL_law_1089 ?_
  refine law_ld K hi hS hl (k := 2) (by decide) (by decide) dL_law_1090 dL_law_1091 dL_law_1092 dL_law_1093 dL_law_1094 ?_
  refine law_ld K hi hS hl (k := 3) (by decide) (by decide) dL_law_1095 dL_law_1096 dL_law_1097 dL_law_1098 dL_law_1099 ?_
  obtain ⟨r, c', d', Z', wd', sz', nu', bt', lg', ce', e1, e2, hF, hSh⟩ := case_sheet hF hSh (xs (i + 1)) (xs (i + 2)) (xs (i + 3))
  refine kWVp (rest := []) (Wn := WX E Q ik pn ph ps en eh es tn th ts (nI T) tat ksz kln cch cmo mik mmo (nI T) mhe mfa mva pb pk pf pd eb ek ef ed tb tk tf td tpb kty kst kvl wd' sz' cst cwo c' ms mke mbe mfi msh mwo mst mta mbi mlo nu' mce mbt) C (k_S_sheet l E (Q 0) (Q 33) (Q 26) (Q 29) (Q 28) (Q 27) (Q 1) (Q 7) (Q 13) (Q 19) (Q 21) (Q 30) H.size ik fo shn shz shw (xs (i + 1)) (xs (i + 2)) (xs (i + 3)) (r, c', nu', sz', wd') e1) fn_S_sheet mw_758 ⟨Nat.le_of_ble_eq_true rfl, Nat.le_of_ble_eq_true rfl⟩ ⟨Nat.le_of_ble_eq_true rfl, Nat.le_of_ble_eq_true rfl⟩ hK hT hS hA (va_recv hK hP (ci := 7) (q0 := 0) rfl rfl) hP hD [0, 33, 26, 29, 28, 27] rfl (by decide) rfl rfl rfl rfl hl (Nat.le_of_ble_eq_true rfl) dL_law_1100 (fun H locs hP hD hS => ?_)
  refine lv_aload_n hx hb dL_law_1103 rfl (lv_at hl 2 rfl) ?_
  refine law_ld K hi hS hl (k := 1) (by decide) (by decide) dL_law_1104 dL_law_1105 dL_law_1106 dL_law_1107 dL_law_1108 ?_
  refine law_ld K hi hS hl (k := 2) (by decide) (by decide) dL_law_1109 dL_law_1110 dL_law_1111 dL_law_1112 dL_law_1113 ?_
  refine law_ld K hi hS hl (k := 3) (by decide) (by decide) dL_law_1114 dL_law_1115 dL_law_1116 dL_law_1117 dL_law_1118 ?_
  refine kWVp (rest := [.int r]) (Wn := WX E Q ik pn ph ps en eh es tn th ts (nI T) tat ksz kln cch cmo mik mmo (nI T) mhe mfa mva pb pk pf pd eb ek ef ed tb tk tf td tpb kty kst kvl wd' sz' cst cwo c' ms mke mbe d' msh mwo mst mta bt' lg' nu' ce' mbt) C (k_M_sheet l E (Q 34) (Q 43) (Q 45) (Q 38) (Q 44) (Q 35) (Q 36) (Q 37) (Q 39) (Q 40) (Q 41) (Q 42) (Q 46) H.size mik mmo (nI T) mhe mfa mva mbi mce mfi mlo (xs (i + 1)) (xs (i + 2)) (xs (i + 3)) (r, bt', ce', d', lg') e2) fn_M_sheet mw_1271 ⟨Nat.le_of_ble_eq_true rfl, Nat.le_of_ble_eq_true rfl⟩ ⟨Nat.le_of_ble_eq_true rfl, Nat.le_of_ble_eq_true rfl⟩ hK hT hS hA (va_recv hK hP (ci := 8) (q0 := 34) rfl rfl) hP hD [34, 43, 45, 38, 44] rfl (by decide) rfl rfl rfl rfl hl (Nat.le_of_ble_eq_true rfl) dL_law_1119 (fun H locs hP hD hS => ?_)
  refine lv_icmp_eq (tgt := 1428) hx hb dL_law_1122 (by decide) (fun _ => ?_) (fun q => absurd rfl q)
  exact kk _ _ ⟨ik, pn, ph, ps, en, eh, es, tn, th, ts, (nI T), tat, ksz, kln, cch, cmo, mik, mmo, (nI T), mhe, mfa, mva, pb, pk, pf, pd, eb, ek, ef, ed, tb, tk, tf, td, tpb, kty, kst, kvl, wd', sz', cst, cwo, c', ms, mke, mbe, d', msh, mwo, mst, mta, bt', lg', nu', ce', mbt, ⟨hF, ⟨_, _, _, _, _, _, _, hPl⟩, hIk, ⟨T, rfl, rfl, hTp⟩, _, hSh⟩, hP, hD⟩ hS
set_option maxHeartbeats 4000000 in
set_option maxRecDepth 100000 in
theorem law_write {p : Program} {l : Launch} {e : Env} {s : State} {m : MethodId} {below : List Frame} {meth : Method} {c : Code} {H : Heap} {locs : List Loc} {Z : State → Prop} {E : kE} {Q : Nat → Nat} {b L i : Nat} {xs : Nat → Int32} {ls : Array Slot} (K : lawK E b L xs p s m meth c) (hi : i + 6 ≤ L) (hI : Inv E Q (AA s) H) (hS : va_S (AA s) s.heap H locs) (hl : lv_has ls 4 (lawL b (Q 0) (Q 34) i)) (kk : ∀ (H : Heap) (locs : List Loc), Inv E Q (AA s) H → va_S (AA s) s.heap H locs → W p l e room_1 s m #[Value.ref b] below meth c H locs 47 1498 Z (F0 m 1428 ls [])) : W p l e room_1 s m #[Value.ref b] below meth c H locs 47 1498 Z (F0 m 1127 ls []) := by
  obtain ⟨C, hK, hT, hX, hbl, hL⟩ := id K
  obtain ⟨hx, hb, hr, hml, hown, hw, hlocks⟩ := id C
  have hA : ∀ q : Nat, s.heap.size ≤ q → AA s q := fun _ h => h
  obtain ⟨ik, pn, ph, ps, en, eh, es, tn, th, ts, tpl, tat, ksz, kln, cch, cmo, mik, mmo, mtd, mhe, mfa, mva, pb, pk, pf, pd, eb, ek, ef, ed, tb, tk, tf, td, tpb, kty, kst, kvl, shw, shz, cst, cwo, fo, ms, mke, mbe, mfi, msh, mwo, mst, mta, mbi, mlo, shn, mce, mbt, hRel, hP, hD⟩ := hI
  obtain ⟨hF, ⟨B, K0, F, D, N, H0, S, hPl⟩, hIk, ⟨T, rfl, rfl, hTp⟩, Z0, hSh⟩ := hRel
  refine lv_aload_n hx hb dL_law_1127 rfl (lv_at hl 1 rfl) ?_
  refine law_ld K hi hS hl (k := 1) (by decide) (by decide) dL_law_1128 dL_law_1129 dL_law_1130 dL_law_1131 dL_law_1132 ?_
  refine law_ld K hi hS hl (k := 2) (by decide) (by decide) dL_law_1133 dL_law_1134 dL_law_1135 dL_law_1136 dL_law_1137 ?_
  refine law_ld K hi hS hl (k := 3) (by decide) (by decide) dL_law_1138 dL_law_1139 dL_law_1140 dL_law_1141 dL_law_1142 ?_
  refine lv_i2l hx hb dL_law_1143 rfl ?_
  refine lv_bipush (v := (32 : Int32)) hx hb dL_law_1144 (by decide) ?_
  refine lv_lshl hx hb dL_law_1146 rfl ?_
  refine law_ld K hi hS hl (k := 4) (by decide) (by decide) dL_law_1147 dL_law_1148 dL_law_1149 dL_law_1150 dL_law_1151 ?_
  refine lv_i2l hx hb dL_law_1152 rfl ?_
  refine lv_ldc2 (v := (4294967295 : Int64)) hx hb hown (hw _ mw_1335) dL_law_1153 ?_
  refine lv_land hx hb dL_law_1156 ?_
  refine lv_lor hx hb dL_law_1157 ?_
  refine lv_topl (fun v ev => ?_)
  obtain ⟨r, c', d', nu', ce', e1, e2, hF, hSh⟩ := case_write hF hSh (xs (i + 1)) (xs (i + 2)) v
  refine kWVp (rest := []) (Wn := WX E Q ik pn ph ps en eh es tn th ts (nI T) tat ksz kln cch cmo mik mmo (nI T) mhe mfa mva pb pk pf pd eb ek ef ed tb tk tf td tpb kty kst kvl shw shz cst cwo c' ms mke mbe mfi msh mwo mst mta mbi mlo nu' mce mbt) C (k_S_write l E (Q 0) (Q 33) (Q 26) (Q 29) (Q 28) (Q 27) (Q 1) (Q 7) (Q 13) (Q 19) (Q 21) (Q 30) H.size ik fo shn shz shw (xs (i + 1)) (xs (i + 2)) v (r, c', nu') e1) fn_S_write mw_774 ⟨Nat.le_of_ble_eq_true rfl, Nat.le_of_ble_eq_true rfl⟩ ⟨Nat.le_of_ble_eq_true rfl, Nat.le_of_ble_eq_true rfl⟩ hK hT hS hA (va_recv hK hP (ci := 7) (q0 := 0) rfl rfl) hP hD [0, 33, 26, 29, 28, 27] rfl (by decide) rfl rfl rfl rfl hl (Nat.le_of_ble_eq_true rfl) dL_law_1158 (fun H locs hP hD hS => ?_)
  refine lv_aload_n hx hb dL_law_1161 rfl (lv_at hl 2 rfl) ?_
  refine law_ld K hi hS hl (k := 1) (by decide) (by decide) dL_law_1162 dL_law_1163 dL_law_1164 dL_law_1165 dL_law_1166 ?_
  refine law_ld K hi hS hl (k := 2) (by decide) (by decide) dL_law_1167 dL_law_1168 dL_law_1169 dL_law_1170 dL_law_1171 ?_
  refine law_ld K hi hS hl (k := 3) (by decide) (by decide) dL_law_1172 dL_law_1173 dL_law_1174 dL_law_1175 dL_law_1176 ?_
  refine lv_i2l hx hb dL_law_1177 rfl ?_
  refine lv_bipush (v := (32 : Int32)) hx hb dL_law_1178 (by decide) ?_
  refine lv_lshl hx hb dL_law_1180 rfl ?_
  refine law_ld K hi hS hl (k := 4) (by decide) (by decide) dL_law_1181 dL_law_1182 dL_law_1183 dL_law_1184 dL_law_1185 ?_
  refine lv_i2l hx hb dL_law_1186 rfl ?_
  refine lv_ldc2 (v := (4294967295 : Int64)) hx hb hown (hw _ mw_1335) dL_law_1187 ?_
  refine lv_land hx hb dL_law_1190 ?_
  refine lv_lor hx hb dL_law_1191 ?_
  rw [← ev]
  refine kWVp (rest := [.long r]) (Wn := WX E Q ik pn ph ps en eh es tn th ts (nI T) tat ksz kln cch cmo mik mmo (nI T) mhe mfa mva pb pk pf pd eb ek ef ed tb tk tf td tpb kty kst kvl shw shz cst cwo c' ms mke mbe d' msh mwo mst mta mbi mlo nu' ce' mbt) C (k_M_write l E (Q 34) (Q 43) (Q 45) (Q 38) (Q 44) (Q 35) (Q 36) (Q 37) (Q 39) (Q 40) (Q 41) (Q 42) (Q 46) H.size mik mmo (nI T) mhe mfa mva mbi mce mfi mlo (xs (i + 1)) (xs (i + 2)) v (r, ce', d') e2) fn_M_write mw_1278 ⟨Nat.le_of_ble_eq_true rfl, Nat.le_of_ble_eq_true rfl⟩ ⟨Nat.le_of_ble_eq_true rfl, Nat.le_of_ble_eq_true rfl⟩ hK hT hS hA (va_recv hK hP (ci := 8) (q0 := 34) rfl rfl) hP hD [34, 43, 45, 38, 44] rfl (by decide) rfl rfl rfl rfl hl (Nat.le_of_ble_eq_true rfl) dL_law_1192 (fun H locs hP hD hS => ?_)
  refine W.lcmp hx hb dL_law_1195 ?_
  refine lv_if_eq (tgt := 1428) hx hb dL_law_1196 (by decide) (fun _ => ?_) (fun q => absurd ((lg_cmp_eq _ _).mpr rfl) q)
  exact kk _ _ ⟨ik, pn, ph, ps, en, eh, es, tn, th, ts, (nI T), tat, ksz, kln, cch, cmo, mik, mmo, (nI T), mhe, mfa, mva, pb, pk, pf, pd, eb, ek, ef, ed, tb, tk, tf, td, tpb, kty, kst, kvl, shw, shz, cst, cwo, c', ms, mke, mbe, d', msh, mwo, mst, mta, mbi, mlo, nu', ce', mbt, ⟨hF, ⟨_, _, _, _, _, _, _, hPl⟩, hIk, ⟨T, rfl, rfl, hTp⟩, _, hSh⟩, hP, hD⟩ hS
set_option maxHeartbeats 4000000 in
set_option maxRecDepth 100000 in
theorem law_copy {p : Program} {l : Launch} {e : Env} {s : State} {m : MethodId} {below : List Frame} {meth : Method} {c : Code} {H : Heap} {locs : List Loc} {Z : State → Prop} {E : kE} {Q : Nat → Nat} {b L i : Nat} {xs : Nat → Int32} {ls : Array Slot} (K : lawK E b L xs p s m meth c) (hi : i + 6 ≤ L) (hI : Inv E Q (AA s) H) (hS : va_S (AA s) s.heap H locs) (hl : lv_has ls 4 (lawL b (Q 0) (Q 34) i)) (kk : ∀ (H : Heap) (locs : List Loc), Inv E Q (AA s) H → va_S (AA s) s.heap H locs → W p l e room_1 s m #[Value.ref b] below meth c H locs 47 1498 Z (F0 m 1428 ls [])) : W p l e room_1 s m #[Value.ref b] below meth c H locs 47 1498 Z (F0 m 1201 ls []) := by
  obtain ⟨C, hK, hT, hX, hbl, hL⟩ := id K
  obtain ⟨hx, hb, hr, hml, hown, hw, hlocks⟩ := id C
  have hA : ∀ q : Nat, s.heap.size ≤ q → AA s q := fun _ h => h
  obtain ⟨ik, pn, ph, ps, en, eh, es, tn, th, ts, tpl, tat, ksz, kln, cch, cmo, mik, mmo, mtd, mhe, mfa, mva, pb, pk, pf, pd, eb, ek, ef, ed, tb, tk, tf, td, tpb, kty, kst, kvl, shw, shz, cst, cwo, fo, ms, mke, mbe, mfi, msh, mwo, mst, mta, mbi, mlo, shn, mce, mbt, hRel, hP, hD⟩ := hI
  obtain ⟨hF, ⟨B, K0, F, D, N, H0, S, hPl⟩, hIk, ⟨T, rfl, rfl, hTp⟩, Z0, hSh⟩ := hRel
  refine lv_aload_n hx hb dL_law_1201 rfl (lv_at hl 1 rfl) ?_
  refine law_ld K hi hS hl (k := 1) (by decide) (by decide) dL_law_1202 dL_law_1203 dL_law_1204 dL_law_1205 dL_law_1206 ?_
  refine law_ld K hi hS hl (k := 2) (by decide) (by decide) dL_law_1207 dL_law_1208 dL_law_1209 dL_law_1210 dL_law_1211 ?_
  refine law_ld K hi hS hl (k := 3) (by decide) (by decide) dL_law_1212 dL_law_1213 dL_law_1214 dL_law_1215 dL_law_1216 ?_
  refine law_ld K hi hS hl (k := 4) (by decide) (by decide) dL_law_1217 dL_law_1218 dL_law_1219 dL_law_1220 dL_law_1221 ?_
  refine law_ld K hi hS hl (k := 5) (by decide) (by decide) dL_law_1222 dL_law_1223 dL_law_1224 dL_law_1225 dL_law_1226 ?_
  obtain ⟨r, c', d', nu', be', ce', e1, e2, hF, hSh⟩ := case_copy hF hSh mbt (xs (i + 1)) (xs (i + 2)) (xs (i + 3)) (xs (i + 4)) (xs (i + 5))
  refine kWVp (rest := []) (Wn := WX E Q ik pn ph ps en eh es tn th ts (nI T) tat ksz kln cch cmo mik mmo (nI T) mhe mfa mva pb pk pf pd eb ek ef ed tb tk tf td tpb kty kst kvl shw shz cst cwo c' ms mke mbe mfi msh mwo mst mta mbi mlo nu' mce mbt) C (k_S_copy l E (Q 0) (Q 33) (Q 26) (Q 29) (Q 28) (Q 27) (Q 1) (Q 7) (Q 13) (Q 19) (Q 21) (Q 30) H.size ik fo shn shz shw (xs (i + 1)) (xs (i + 2)) (xs (i + 3)) (xs (i + 4)) (xs (i + 5)) (r, c', nu') e1) fn_S_copy mw_799 ⟨Nat.le_of_ble_eq_true rfl, Nat.le_of_ble_eq_true rfl⟩ ⟨Nat.le_of_ble_eq_true rfl, Nat.le_of_ble_eq_true rfl⟩ hK hT hS hA (va_recv hK hP (ci := 7) (q0 := 0) rfl rfl) hP hD [0, 33, 26, 29, 28, 27] rfl (by decide) rfl rfl rfl rfl hl (Nat.le_of_ble_eq_true rfl) dL_law_1227 (fun H locs hP hD hS => ?_)
  refine lv_aload_n hx hb dL_law_1230 rfl (lv_at hl 2 rfl) ?_
  refine law_ld K hi hS hl (k := 1) (by decide) (by decide) dL_law_1231 dL_law_1232 dL_law_1233 dL_law_1234 dL_law_1235 ?_
  refine law_ld K hi hS hl (k := 2) (by decide) (by decide) dL_law_1236 dL_law_1237 dL_law_1238 dL_law_1239 dL_law_1240 ?_
  refine law_ld K hi hS hl (k := 3) (by decide) (by decide) dL_law_1241 dL_law_1242 dL_law_1243 dL_law_1244 dL_law_1245 ?_
  refine law_ld K hi hS hl (k := 4) (by decide) (by decide) dL_law_1246 dL_law_1247 dL_law_1248 dL_law_1249 dL_law_1250 ?_
  refine law_ld K hi hS hl (k := 5) (by decide) (by decide) dL_law_1251 dL_law_1252 dL_law_1253 dL_law_1254 dL_law_1255 ?_
  refine kWVp (rest := [.int r]) (Wn := WX E Q ik pn ph ps en eh es tn th ts (nI T) tat ksz kln cch cmo mik mmo (nI T) mhe mfa mva pb pk pf pd eb ek ef ed tb tk tf td tpb kty kst kvl shw shz cst cwo c' ms mke mbe d' msh mwo mst mta mbi mlo nu' ce' be') C (k_M_copy l E (Q 34) (Q 46) (Q 43) (Q 45) (Q 38) (Q 44) (Q 35) (Q 36) (Q 37) (Q 39) (Q 40) (Q 41) (Q 42) H.size mik mmo (nI T) mhe mfa mva mbt mbi mce mfi mlo (xs (i + 1)) (xs (i + 2)) (xs (i + 3)) (xs (i + 4)) (xs (i + 5)) (r, be', ce', d') e2) fn_M_copy mw_1286 ⟨Nat.le_of_ble_eq_true rfl, Nat.le_of_ble_eq_true rfl⟩ ⟨Nat.le_of_ble_eq_true rfl, Nat.le_of_ble_eq_true rfl⟩ hK hT hS hA (va_recv hK hP (ci := 8) (q0 := 34) rfl rfl) hP hD [34, 46, 43, 45, 38, 44] rfl (by decide) rfl rfl rfl rfl hl (Nat.le_of_ble_eq_true rfl) dL_law_1256 (fun H locs hP hD hS => ?_)
  refine lv_icmp_eq (tgt := 1428) hx hb dL_law_1259 (by decide) (fun _ => ?_) (fun q => absurd rfl q)
  exact kk _ _ ⟨ik, pn, ph, ps, en, eh, es, tn, th, ts, (nI T), tat, ksz, kln, cch, cmo, mik, mmo, (nI T), mhe, mfa, mva, pb, pk, pf, pd, eb, ek, ef, ed, tb, tk, tf, td, tpb, kty, kst, kvl, shw, shz, cst, cwo, c', ms, mke, mbe, d', msh, mwo, mst, mta, mbi, mlo, nu', ce', be', ⟨hF, ⟨_, _, _, _, _, _, _, hPl⟩, hIk, ⟨T, rfl, rfl, hTp⟩, _, hSh⟩, hP, hD⟩ hS
set_option maxHeartbeats 4000000 in
set_option maxRecDepth 100000 in
theorem law_lays {p : Program} {l : Launch} {e : Env} {s : State} {m : MethodId} {below : List Frame} {meth : Method} {c : Code} {H : Heap} {locs : List Loc} {Z : State → Prop} {E : kE} {Q : Nat → Nat} {b L i : Nat} {xs : Nat → Int32} {ls : Array Slot} (K : lawK E b L xs p s m meth c) (hi : i + 6 ≤ L) (hI : Inv E Q (AA s) H) (hS : va_S (AA s) s.heap H locs) (hl : lv_has ls 4 (lawL b (Q 0) (Q 34) i)) (kk : ∀ (H : Heap) (locs : List Loc), Inv E Q (AA s) H → va_S (AA s) s.heap H locs → W p l e room_1 s m #[Value.ref b] below meth c H locs 47 1498 Z (F0 m 1428 ls [])) : W p l e room_1 s m #[Value.ref b] below meth c H locs 47 1498 Z (F0 m 1264 ls []) := by
  obtain ⟨C, hK, hT, hX, hbl, hL⟩ := id K
  obtain ⟨hx, hb, hr, hml, hown, hw, hlocks⟩ := id C
  have hA : ∀ q : Nat, s.heap.size ≤ q → AA s q := fun _ h => h
  obtain ⟨ik, pn, ph, ps, en, eh, es, tn, th, ts, tpl, tat, ksz, kln, cch, cmo, mik, mmo, mtd, mhe, mfa, mva, pb, pk, pf, pd, eb, ek, ef, ed, tb, tk, tf, td, tpb, kty, kst, kvl, shw, shz, cst, cwo, fo, ms, mke, mbe, mfi, msh, mwo, mst, mta, mbi, mlo, shn, mce, mbt, hRel, hP, hD⟩ := hI
  obtain ⟨hF, ⟨B, K0, F, D, N, H0, S, hPl⟩, hIk, ⟨T, rfl, rfl, hTp⟩, Z0, hSh⟩ := hRel
  refine lv_aload_n hx hb dL_law_1264 rfl (lv_at hl 1 rfl) ?_
  refine law_ld K hi hS hl (k := 1) (by decide) (by decide) dL_law_1265 dL_law_1266 dL_law_1267 dL_law_1268 dL_law_1269 ?_
  obtain ⟨r, c', d', B', bf', s', e1, e2, hF, hPl⟩ := case_lays hF hPl hSh (xs (i + 1))
  refine kWVp (rest := []) (Wn := WX E Q ik pn ph ps en eh es tn th ts (nI T) tat ksz kln cch cmo mik mmo (nI T) mhe mfa mva bf' pk pf pd eb ek ef ed tb tk tf td tpb kty kst kvl shw shz cst cwo c' ms mke mbe mfi msh mwo mst mta mbi mlo shn mce mbt) C (k_S_lays l E (Q 0) (Q 33) (Q 1) (Q 2) (Q 3) (Q 26) (Q 29) (Q 28) (Q 27) (Q 7) (Q 13) (Q 19) (Q 21) (Q 30) (Q 4) (Q 5) (Q 6) H.size ik fo pn ph ps pb shn shz shw (xs (i + 1)) (r, c', bf') e1) fn_S_lays mw_817 ⟨Nat.le_of_ble_eq_true rfl, Nat.le_of_ble_eq_true rfl⟩ ⟨Nat.le_of_ble_eq_true rfl, Nat.le_of_ble_eq_true rfl⟩ hK hT hS hA (va_recv hK hP (ci := 7) (q0 := 0) rfl rfl) hP hD [0, 33, 1, 2, 3, 26, 29, 28, 27] rfl (by decide) rfl rfl rfl rfl hl (Nat.le_of_ble_eq_true rfl) dL_law_1270 (fun H locs hP hD hS => ?_)
  refine lv_aload_n hx hb dL_law_1273 rfl (lv_at hl 2 rfl) ?_
  refine law_ld K hi hS hl (k := 1) (by decide) (by decide) dL_law_1274 dL_law_1275 dL_law_1276 dL_law_1277 dL_law_1278 ?_
  refine kWVp (rest := [.int r]) (Wn := WX E Q ik pn ph ps en eh es tn th ts (nI T) tat ksz kln cch cmo mik mmo (nI T) mhe mfa mva bf' pk pf pd eb ek ef ed tb tk tf td tpb kty kst kvl shw shz cst cwo c' s' mke mbe d' msh mwo mst mta mbi mlo shn mce mbt) C (k_M_lays l E (Q 34) (Q 43) (Q 45) (Q 38) (Q 44) (Q 35) (Q 36) (Q 37) (Q 39) (Q 40) (Q 41) (Q 42) (Q 46) H.size mik mmo (nI T) mhe mfa mva mbi mce mfi mlo ms (xs (i + 1)) (r, d', s') e2) fn_M_lays mw_1290 ⟨Nat.le_of_ble_eq_true rfl, Nat.le_of_ble_eq_true rfl⟩ ⟨Nat.le_of_ble_eq_true rfl, Nat.le_of_ble_eq_true rfl⟩ hK hT hS hA (va_recv hK hP (ci := 8) (q0 := 34) rfl rfl) hP hD [34, 43, 45, 38, 44, 35] rfl (by decide) rfl rfl rfl rfl hl (Nat.le_of_ble_eq_true rfl) dL_law_1279 (fun H locs hP hD hS => ?_)
  refine lv_icmp_eq (tgt := 1428) hx hb dL_law_1282 (by decide) (fun _ => ?_) (fun q => absurd rfl q)
  exact kk _ _ ⟨ik, pn, ph, ps, en, eh, es, tn, th, ts, (nI T), tat, ksz, kln, cch, cmo, mik, mmo, (nI T), mhe, mfa, mva, bf', pk, pf, pd, eb, ek, ef, ed, tb, tk, tf, td, tpb, kty, kst, kvl, shw, shz, cst, cwo, c', s', mke, mbe, d', msh, mwo, mst, mta, mbi, mlo, shn, mce, mbt, ⟨hF, ⟨_, _, _, _, _, _, _, hPl⟩, hIk, ⟨T, rfl, rfl, hTp⟩, _, hSh⟩, hP, hD⟩ hS
set_option maxHeartbeats 4000000 in
set_option maxRecDepth 100000 in
theorem law_show {p : Program} {l : Launch} {e : Env} {s : State} {m : MethodId} {below : List Frame} {meth : Method} {c : Code} {H : Heap} {locs : List Loc} {Z : State → Prop} {E : kE} {Q : Nat → Nat} {b L i : Nat} {xs : Nat → Int32} {ls : Array Slot} (K : lawK E b L xs p s m meth c) (hi : i + 6 ≤ L) (hI : Inv E Q (AA s) H) (hS : va_S (AA s) s.heap H locs) (hl : lv_has ls 4 (lawL b (Q 0) (Q 34) i)) (kk : ∀ (H : Heap) (locs : List Loc), Inv E Q (AA s) H → va_S (AA s) s.heap H locs → W p l e room_1 s m #[Value.ref b] below meth c H locs 47 1498 Z (F0 m 1428 ls [])) : W p l e room_1 s m #[Value.ref b] below meth c H locs 47 1498 Z (F0 m 1287 ls []) := by
  obtain ⟨C, hK, hT, hX, hbl, hL⟩ := id K
  obtain ⟨hx, hb, hr, hml, hown, hw, hlocks⟩ := id C
  have hA : ∀ q : Nat, s.heap.size ≤ q → AA s q := fun _ h => h
  obtain ⟨ik, pn, ph, ps, en, eh, es, tn, th, ts, tpl, tat, ksz, kln, cch, cmo, mik, mmo, mtd, mhe, mfa, mva, pb, pk, pf, pd, eb, ek, ef, ed, tb, tk, tf, td, tpb, kty, kst, kvl, shw, shz, cst, cwo, fo, ms, mke, mbe, mfi, msh, mwo, mst, mta, mbi, mlo, shn, mce, mbt, hRel, hP, hD⟩ := hI
  obtain ⟨hF, ⟨B, K0, F, D, N, H0, S, hPl⟩, hIk, ⟨T, rfl, rfl, hTp⟩, Z0, hSh⟩ := hRel
  refine lv_aload_n hx hb dL_law_1287 rfl (lv_at hl 1 rfl) ?_
  refine law_ld K hi hS hl (k := 1) (by decide) (by decide) dL_law_1288 dL_law_1289 dL_law_1290 dL_law_1291 dL_law_1292 ?_
  obtain ⟨r, c', d', nu', ce', e1, e2, hF, hSh⟩ := case_show hF hPl hSh (xs (i + 1))
  refine kWVp (rest := []) (Wn := WX E Q ik pn ph ps en eh es tn th ts (nI T) tat ksz kln cch cmo mik mmo (nI T) mhe mfa mva pb pk pf pd eb ek ef ed tb tk tf td tpb kty kst kvl shw shz cst cwo c' ms mke mbe mfi msh mwo mst mta mbi mlo nu' mce mbt) C (k_S_show l E (Q 0) (Q 33) (Q 1) (Q 2) (Q 3) (Q 6) (Q 5) (Q 4) (Q 26) (Q 29) (Q 28) (Q 27) (Q 7) (Q 13) (Q 19) (Q 21) (Q 30) H.size ik fo pn ph ps pb pd pf pk shn shz shw (xs (i + 1)) (r, c', nu') e1) fn_S_show mw_829 ⟨Nat.le_of_ble_eq_true rfl, Nat.le_of_ble_eq_true rfl⟩ ⟨Nat.le_of_ble_eq_true rfl, Nat.le_of_ble_eq_true rfl⟩ hK hT hS hA (va_recv hK hP (ci := 7) (q0 := 0) rfl rfl) hP hD [0, 33, 1, 2, 3, 6, 5, 4, 26, 29, 28, 27] rfl (by decide) rfl rfl rfl rfl hl (Nat.le_of_ble_eq_true rfl) dL_law_1293 (fun H locs hP hD hS => ?_)
  refine lv_aload_n hx hb dL_law_1296 rfl (lv_at hl 2 rfl) ?_
  refine law_ld K hi hS hl (k := 1) (by decide) (by decide) dL_law_1297 dL_law_1298 dL_law_1299 dL_law_1300 dL_law_1301 ?_
  refine kWVp (rest := [.int r]) (Wn := WX E Q ik pn ph ps en eh es tn th ts (nI T) tat ksz kln cch cmo mik mmo (nI T) mhe mfa mva pb pk pf pd eb ek ef ed tb tk tf td tpb kty kst kvl shw shz cst cwo c' ms mke mbe d' msh mwo mst mta mbi mlo nu' ce' mbt) C (k_M_show l E (Q 34) (Q 43) (Q 45) (Q 38) (Q 44) (Q 35) (Q 36) (Q 37) (Q 39) (Q 40) (Q 41) (Q 42) (Q 46) H.size mik mmo (nI T) mhe mfa mva mbi mce mfi mlo ms (xs (i + 1)) (r, ce', d') e2) fn_M_show mw_1295 ⟨Nat.le_of_ble_eq_true rfl, Nat.le_of_ble_eq_true rfl⟩ ⟨Nat.le_of_ble_eq_true rfl, Nat.le_of_ble_eq_true rfl⟩ hK hT hS hA (va_recv hK hP (ci := 8) (q0 := 34) rfl rfl) hP hD [34, 43, 45, 38, 44, 35] rfl (by decide) rfl rfl rfl rfl hl (Nat.le_of_ble_eq_true rfl) dL_law_1302 (fun H locs hP hD hS => ?_)
  refine lv_icmp_eq (tgt := 1428) hx hb dL_law_1305 (by decide) (fun _ => ?_) (fun q => absurd rfl q)
  exact kk _ _ ⟨ik, pn, ph, ps, en, eh, es, tn, th, ts, (nI T), tat, ksz, kln, cch, cmo, mik, mmo, (nI T), mhe, mfa, mva, pb, pk, pf, pd, eb, ek, ef, ed, tb, tk, tf, td, tpb, kty, kst, kvl, shw, shz, cst, cwo, c', ms, mke, mbe, d', msh, mwo, mst, mta, mbi, mlo, nu', ce', mbt, ⟨hF, ⟨_, _, _, _, _, _, _, hPl⟩, hIk, ⟨T, rfl, rfl, hTp⟩, _, hSh⟩, hP, hD⟩ hS
set_option maxHeartbeats 4000000 in
set_option maxRecDepth 100000 in
theorem law_walk {p : Program} {l : Launch} {e : Env} {s : State} {m : MethodId} {below : List Frame} {meth : Method} {c : Code} {H : Heap} {locs : List Loc} {Z : State → Prop} {E : kE} {Q : Nat → Nat} {b L i : Nat} {xs : Nat → Int32} {ls : Array Slot} (K : lawK E b L xs p s m meth c) (hi : i + 6 ≤ L) (hI : Inv E Q (AA s) H) (hS : va_S (AA s) s.heap H locs) (hl : lv_has ls 4 (lawL b (Q 0) (Q 34) i)) (kk : ∀ (H : Heap) (locs : List Loc), Inv E Q (AA s) H → va_S (AA s) s.heap H locs → W p l e room_1 s m #[Value.ref b] below meth c H locs 47 1498 Z (F0 m 1428 ls [])) : W p l e room_1 s m #[Value.ref b] below meth c H locs 47 1498 Z (F0 m 1310 ls []) := by
  obtain ⟨C, hK, hT, hX, hbl, hL⟩ := id K
  obtain ⟨hx, hb, hr, hml, hown, hw, hlocks⟩ := id C
  have hA : ∀ q : Nat, s.heap.size ≤ q → AA s q := fun _ h => h
  obtain ⟨ik, pn, ph, ps, en, eh, es, tn, th, ts, tpl, tat, ksz, kln, cch, cmo, mik, mmo, mtd, mhe, mfa, mva, pb, pk, pf, pd, eb, ek, ef, ed, tb, tk, tf, td, tpb, kty, kst, kvl, shw, shz, cst, cwo, fo, ms, mke, mbe, mfi, msh, mwo, mst, mta, mbi, mlo, shn, mce, mbt, hRel, hP, hD⟩ := hI
  obtain ⟨hF, ⟨B, K0, F, D, N, H0, S, hPl⟩, hIk, ⟨T, rfl, rfl, hTp⟩, Z0, hSh⟩ := hRel
  refine lv_aload_n hx hb dL_law_1310 rfl (lv_at hl 1 rfl) ?_
  refine law_ld K hi hS hl (k := 1) (by decide) (by decide) dL_law_1311 dL_law_1312 dL_law_1313 dL_law_1314 dL_law_1315 ?_
  refine law_ld K hi hS hl (k := 2) (by decide) (by decide) dL_law_1316 dL_law_1317 dL_law_1318 dL_law_1319 dL_law_1320 ?_
  obtain ⟨r, c', d', e1, e2, hF⟩ := case_walk hF hSh (xs (i + 1)) (xs (i + 2))
  refine kWVp (rest := []) (Wn := WX E Q ik pn ph ps en eh es tn th ts (nI T) tat ksz kln cch cmo mik mmo (nI T) mhe mfa mva pb pk pf pd eb ek ef ed tb tk tf td tpb kty kst kvl shw shz cst cwo c' ms mke mbe mfi msh mwo mst mta mbi mlo shn mce mbt) C (k_S_walk l E (Q 0) (Q 33) (Q 26) (Q 29) (Q 28) (Q 27) (Q 1) (Q 7) (Q 13) (Q 19) (Q 21) (Q 30) H.size ik fo shn shz shw (xs (i + 1)) (xs (i + 2)) (r, c') e1) fn_S_walk mw_834 ⟨Nat.le_of_ble_eq_true rfl, Nat.le_of_ble_eq_true rfl⟩ ⟨Nat.le_of_ble_eq_true rfl, Nat.le_of_ble_eq_true rfl⟩ hK hT hS hA (va_recv hK hP (ci := 7) (q0 := 0) rfl rfl) hP hD [0, 33, 26, 29, 28, 27] rfl (by decide) rfl rfl rfl rfl hl (Nat.le_of_ble_eq_true rfl) dL_law_1321 (fun H locs hP hD hS => ?_)
  refine lv_aload_n hx hb dL_law_1324 rfl (lv_at hl 2 rfl) ?_
  refine law_ld K hi hS hl (k := 1) (by decide) (by decide) dL_law_1325 dL_law_1326 dL_law_1327 dL_law_1328 dL_law_1329 ?_
  refine law_ld K hi hS hl (k := 2) (by decide) (by decide) dL_law_1330 dL_law_1331 dL_law_1332 dL_law_1333 dL_law_1334 ?_
  refine kWVp (rest := [.int r]) (Wn := WX E Q ik pn ph ps en eh es tn th ts (nI T) tat ksz kln cch cmo mik mmo (nI T) mhe mfa mva pb pk pf pd eb ek ef ed tb tk tf td tpb kty kst kvl shw shz cst cwo c' ms mke mbe d' msh mwo mst mta mbi mlo shn mce mbt) C (k_M_walk l E (Q 34) (Q 43) (Q 45) (Q 38) (Q 44) (Q 35) (Q 36) (Q 37) (Q 39) (Q 40) (Q 41) (Q 42) (Q 46) H.size mik mmo (nI T) mhe mfa mva mbi mce mfi mlo (xs (i + 1)) (xs (i + 2)) (r, d') e2) fn_M_walk mw_1299 ⟨Nat.le_of_ble_eq_true rfl, Nat.le_of_ble_eq_true rfl⟩ ⟨Nat.le_of_ble_eq_true rfl, Nat.le_of_ble_eq_true rfl⟩ hK hT hS hA (va_recv hK hP (ci := 8) (q0 := 34) rfl rfl) hP hD [34, 43, 45, 38, 44] rfl (by decide) rfl rfl rfl rfl hl (Nat.le_of_ble_eq_true rfl) dL_law_1335 (fun H locs hP hD hS => ?_)
  refine lv_icmp_eq (tgt := 1428) hx hb dL_law_1338 (by decide) (fun _ => ?_) (fun q => absurd rfl q)
  exact kk _ _ ⟨ik, pn, ph, ps, en, eh, es, tn, th, ts, (nI T), tat, ksz, kln, cch, cmo, mik, mmo, (nI T), mhe, mfa, mva, pb, pk, pf, pd, eb, ek, ef, ed, tb, tk, tf, td, tpb, kty, kst, kvl, shw, shz, cst, cwo, c', ms, mke, mbe, d', msh, mwo, mst, mta, mbi, mlo, shn, mce, mbt, ⟨hF, ⟨_, _, _, _, _, _, _, hPl⟩, hIk, ⟨T, rfl, rfl, hTp⟩, _, hSh⟩, hP, hD⟩ hS
set_option maxHeartbeats 4000000 in
set_option maxRecDepth 100000 in
theorem law_image {p : Program} {l : Launch} {e : Env} {s : State} {m : MethodId} {below : List Frame} {meth : Method} {c : Code} {H : Heap} {locs : List Loc} {Z : State → Prop} {E : kE} {Q : Nat → Nat} {b L i : Nat} {xs : Nat → Int32} {ls : Array Slot} (K : lawK E b L xs p s m meth c) (hi : i + 6 ≤ L) (hI : Inv E Q (AA s) H) (hS : va_S (AA s) s.heap H locs) (hl : lv_has ls 4 (lawL b (Q 0) (Q 34) i)) (kk : ∀ (H : Heap) (locs : List Loc), Inv E Q (AA s) H → va_S (AA s) s.heap H locs → W p l e room_1 s m #[Value.ref b] below meth c H locs 47 1498 Z (F0 m 1428 ls [])) : W p l e room_1 s m #[Value.ref b] below meth c H locs 47 1498 Z (F0 m 1343 ls []) := by
  obtain ⟨C, hK, hT, hX, hbl, hL⟩ := id K
  obtain ⟨hx, hb, hr, hml, hown, hw, hlocks⟩ := id C
  have hA : ∀ q : Nat, s.heap.size ≤ q → AA s q := fun _ h => h
  obtain ⟨ik, pn, ph, ps, en, eh, es, tn, th, ts, tpl, tat, ksz, kln, cch, cmo, mik, mmo, mtd, mhe, mfa, mva, pb, pk, pf, pd, eb, ek, ef, ed, tb, tk, tf, td, tpb, kty, kst, kvl, shw, shz, cst, cwo, fo, ms, mke, mbe, mfi, msh, mwo, mst, mta, mbi, mlo, shn, mce, mbt, hRel, hP, hD⟩ := hI
  obtain ⟨hF, ⟨B, K0, F, D, N, H0, S, hPl⟩, hIk, ⟨T, rfl, rfl, hTp⟩, Z0, hSh⟩ := hRel
  refine lv_aload_n hx hb dL_law_1343 rfl (lv_at hl 1 rfl) ?_
  obtain ⟨n', h', s1', bf', dp', fm', kd', kM', e1, e2, hPl2⟩ := case_image hPl ik en eh es eb ed ef ek mik mke
  refine kWVp (rest := []) (Wn := WX E Q 1 pn ph ps n' h' s1' tn th ts (nI T) tat ksz kln cch cmo mik mmo (nI T) mhe mfa mva pb pk pf pd bf' kd' fm' dp' tb tk tf td tpb kty kst kvl shw shz cst cwo fo ms mke mbe mfi msh mwo mst mta mbi mlo shn mce mbt) C (k_S_image l E (Q 0) (Q 7) (Q 8) (Q 9) (Q 12) (Q 11) (Q 10) (Q 1) (Q 2) (Q 3) (Q 6) (Q 5) (Q 4) (Q 13) (Q 19) (Q 21) (Q 26) (Q 30) (Q 33) H.size ik en eh es eb ed ef ek pn ph ps pb pd pf pk (1, 1, n', h', s1', bf', dp', fm', kd') e1) fn_S_image mw_847 ⟨Nat.le_of_ble_eq_true rfl, Nat.le_of_ble_eq_true rfl⟩ ⟨Nat.le_of_ble_eq_true rfl, Nat.le_of_ble_eq_true rfl⟩ hK hT hS hA (va_recv hK hP (ci := 7) (q0 := 0) rfl rfl) hP hD [0, 7, 8, 9, 12, 11, 10, 1, 2, 3, 6, 5, 4] rfl (by decide) rfl rfl rfl rfl hl (Nat.le_of_ble_eq_true rfl) dL_law_1344 (fun H locs hP hD hS => ?_)
  refine lv_aload_n hx hb dL_law_1347 rfl (lv_at hl 2 rfl) ?_
  refine kWVp (rest := [.int 1]) (Wn := WX E Q 1 pn ph ps n' h' s1' tn th ts (nI T) tat ksz kln cch cmo 1 mmo (nI T) mhe mfa mva pb pk pf pd bf' kd' fm' dp' tb tk tf td tpb kty kst kvl shw shz cst cwo fo ms kM' mbe mfi msh mwo mst mta mbi mlo shn mce mbt) C (k_M_image l E (Q 34) (Q 36) (Q 35) (Q 37) (Q 38) (Q 39) (Q 40) (Q 41) (Q 42) (Q 43) (Q 44) (Q 45) (Q 46) H.size mik mmo (nI T) mhe mfa mva mke ms (1, 1, kM') e2) fn_M_image mw_1307 ⟨Nat.le_of_ble_eq_true rfl, Nat.le_of_ble_eq_true rfl⟩ ⟨Nat.le_of_ble_eq_true rfl, Nat.le_of_ble_eq_true rfl⟩ hK hT hS hA (va_recv hK hP (ci := 8) (q0 := 34) rfl rfl) hP hD [34, 36, 35] rfl (by decide) rfl rfl rfl rfl hl (Nat.le_of_ble_eq_true rfl) dL_law_1348 (fun H locs hP hD hS => ?_)
  refine lv_icmp_eq (tgt := 1428) hx hb dL_law_1351 (by decide) (fun _ => ?_) (fun q => absurd rfl q)
  exact kk _ _ ⟨1, pn, ph, ps, n', h', s1', tn, th, ts, (nI T), tat, ksz, kln, cch, cmo, 1, mmo, (nI T), mhe, mfa, mva, pb, pk, pf, pd, bf', kd', fm', dp', tb, tk, tf, td, tpb, kty, kst, kvl, shw, shz, cst, cwo, fo, ms, kM', mbe, mfi, msh, mwo, mst, mta, mbi, mlo, shn, mce, mbt, ⟨hF, ⟨_, _, _, _, _, _, _, hPl⟩, (Or.inr ⟨rfl, rfl, _, _, _, _, _, _, _, hPl2⟩), ⟨T, rfl, rfl, hTp⟩, _, hSh⟩, hP, hD⟩ hS
set_option maxHeartbeats 4000000 in
set_option maxRecDepth 100000 in
theorem law_undo {p : Program} {l : Launch} {e : Env} {s : State} {m : MethodId} {below : List Frame} {meth : Method} {c : Code} {H : Heap} {locs : List Loc} {Z : State → Prop} {E : kE} {Q : Nat → Nat} {b L i : Nat} {xs : Nat → Int32} {ls : Array Slot} (K : lawK E b L xs p s m meth c) (hi : i + 6 ≤ L) (hI : Inv E Q (AA s) H) (hS : va_S (AA s) s.heap H locs) (hl : lv_has ls 4 (lawL b (Q 0) (Q 34) i)) (kk : ∀ (H : Heap) (locs : List Loc), Inv E Q (AA s) H → va_S (AA s) s.heap H locs → W p l e room_1 s m #[Value.ref b] below meth c H locs 47 1498 Z (F0 m 1428 ls [])) : W p l e room_1 s m #[Value.ref b] below meth c H locs 47 1498 Z (F0 m 1356 ls []) := by
  obtain ⟨C, hK, hT, hX, hbl, hL⟩ := id K
  obtain ⟨hx, hb, hr, hml, hown, hw, hlocks⟩ := id C
  have hA : ∀ q : Nat, s.heap.size ≤ q → AA s q := fun _ h => h
  obtain ⟨ik, pn, ph, ps, en, eh, es, tn, th, ts, tpl, tat, ksz, kln, cch, cmo, mik, mmo, mtd, mhe, mfa, mva, pb, pk, pf, pd, eb, ek, ef, ed, tb, tk, tf, td, tpb, kty, kst, kvl, shw, shz, cst, cwo, fo, ms, mke, mbe, mfi, msh, mwo, mst, mta, mbi, mlo, shn, mce, mbt, hRel, hP, hD⟩ := hI
  obtain ⟨hF, ⟨B, K0, F, D, N, H0, S, hPl⟩, hIk, ⟨T, rfl, rfl, hTp⟩, Z0, hSh⟩ := hRel
  refine lv_aload_n hx hb dL_law_1356 rfl (lv_at hl 1 rfl) ?_
  obtain ⟨r, c', d', B', K', F', D', N', H', S', n', h', s1, bf', dp', fm', kd', s', e1, e2, hF, hPl⟩ := case_undo' hF hPl hIk
  refine kWVp (rest := []) (Wn := WX E Q ik n' h' s1 en eh es tn th ts (nI T) tat ksz kln cch cmo mik mmo (nI T) mhe mfa mva bf' kd' fm' dp' eb ek ef ed tb tk tf td tpb kty kst kvl shw shz cst cwo c' ms mke mbe mfi msh mwo mst mta mbi mlo shn mce mbt) C (k_S_undo l E (Q 0) (Q 33) (Q 7) (Q 8) (Q 9) (Q 12) (Q 11) (Q 10) (Q 1) (Q 2) (Q 3) (Q 6) (Q 5) (Q 4) (Q 13) (Q 19) (Q 21) (Q 26) (Q 30) H.size ik fo en eh es eb ed ef ek pn ph ps pb pd pf pk (r, c', n', h', s1, bf', dp', fm', kd') e1) fn_S_undo mw_851 ⟨Nat.le_of_ble_eq_true rfl, Nat.le_of_ble_eq_true rfl⟩ ⟨Nat.le_of_ble_eq_true rfl, Nat.le_of_ble_eq_true rfl⟩ hK hT hS hA (va_recv hK hP (ci := 7) (q0 := 0) rfl rfl) hP hD [0, 33, 7, 8, 9, 12, 11, 10, 1, 2, 3, 6, 5, 4] rfl (by decide) rfl rfl rfl rfl hl (Nat.le_of_ble_eq_true rfl) dL_law_1357 (fun H locs hP hD hS => ?_)
  refine lv_aload_n hx hb dL_law_1360 rfl (lv_at hl 2 rfl) ?_
  refine kWVp (rest := [.int r]) (Wn := WX E Q ik n' h' s1 en eh es tn th ts (nI T) tat ksz kln cch cmo mik mmo (nI T) mhe mfa mva bf' kd' fm' dp' eb ek ef ed tb tk tf td tpb kty kst kvl shw shz cst cwo c' s' mke mbe d' msh mwo mst mta mbi mlo shn mce mbt) C (k_M_undo l E (Q 34) (Q 38) (Q 36) (Q 35) (Q 37) (Q 39) (Q 40) (Q 41) (Q 42) (Q 43) (Q 44) (Q 45) (Q 46) H.size mik mmo (nI T) mhe mfa mva mfi mke ms (r, d', s') e2) fn_M_undo mw_1311 ⟨Nat.le_of_ble_eq_true rfl, Nat.le_of_ble_eq_true rfl⟩ ⟨Nat.le_of_ble_eq_true rfl, Nat.le_of_ble_eq_true rfl⟩ hK hT hS hA (va_recv hK hP (ci := 8) (q0 := 34) rfl rfl) hP hD [34, 38, 36, 35] rfl (by decide) rfl rfl rfl rfl hl (Nat.le_of_ble_eq_true rfl) dL_law_1361 (fun H locs hP hD hS => ?_)
  refine lv_icmp_eq (tgt := 1428) hx hb dL_law_1364 (by decide) (fun _ => ?_) (fun q => absurd rfl q)
  exact kk _ _ ⟨ik, n', h', s1, en, eh, es, tn, th, ts, (nI T), tat, ksz, kln, cch, cmo, mik, mmo, (nI T), mhe, mfa, mva, bf', kd', fm', dp', eb, ek, ef, ed, tb, tk, tf, td, tpb, kty, kst, kvl, shw, shz, cst, cwo, c', s', mke, mbe, d', msh, mwo, mst, mta, mbi, mlo, shn, mce, mbt, ⟨hF, ⟨_, _, _, _, _, _, _, hPl⟩, hIk, ⟨T, rfl, rfl, hTp⟩, _, hSh⟩, hP, hD⟩ hS
set_option maxHeartbeats 4000000 in
set_option maxRecDepth 100000 in
theorem law_tear {p : Program} {l : Launch} {e : Env} {s : State} {m : MethodId} {below : List Frame} {meth : Method} {c : Code} {H : Heap} {locs : List Loc} {Z : State → Prop} {E : kE} {Q : Nat → Nat} {b L i : Nat} {xs : Nat → Int32} {ls : Array Slot} (K : lawK E b L xs p s m meth c) (hi : i + 6 ≤ L) (hI : Inv E Q (AA s) H) (hS : va_S (AA s) s.heap H locs) (hl : lv_has ls 4 (lawL b (Q 0) (Q 34) i)) (kk : ∀ (H : Heap) (locs : List Loc), Inv E Q (AA s) H → va_S (AA s) s.heap H locs → W p l e room_1 s m #[Value.ref b] below meth c H locs 47 1498 Z (F0 m 1428 ls [])) : W p l e room_1 s m #[Value.ref b] below meth c H locs 47 1498 Z (F0 m 1369 ls []) := by
  obtain ⟨C, hK, hT, hX, hbl, hL⟩ := id K
  obtain ⟨hx, hb, hr, hml, hown, hw, hlocks⟩ := id C
  have hA : ∀ q : Nat, s.heap.size ≤ q → AA s q := fun _ h => h
  obtain ⟨ik, pn, ph, ps, en, eh, es, tn, th, ts, tpl, tat, ksz, kln, cch, cmo, mik, mmo, mtd, mhe, mfa, mva, pb, pk, pf, pd, eb, ek, ef, ed, tb, tk, tf, td, tpb, kty, kst, kvl, shw, shz, cst, cwo, fo, ms, mke, mbe, mfi, msh, mwo, mst, mta, mbi, mlo, shn, mce, mbt, hRel, hP, hD⟩ := hI
  obtain ⟨hF, ⟨B, K0, F, D, N, H0, S, hPl⟩, hIk, ⟨T, rfl, rfl, hTp⟩, Z0, hSh⟩ := hRel
  refine lv_aload_n hx hb dL_law_1369 rfl (lv_at hl 1 rfl) ?_
  obtain ⟨r, e1, e2⟩ := case_tear' hIk
  refine kWVp (rest := []) (Wn := WX E Q 0 pn ph ps en eh es tn th ts (nI T) tat ksz kln cch cmo mik mmo (nI T) mhe mfa mva pb pk pf pd eb ek ef ed tb tk tf td tpb kty kst kvl shw shz cst cwo fo ms mke mbe mfi msh mwo mst mta mbi mlo shn mce mbt) C (k_S_tear l E (Q 0) (Q 1) (Q 7) (Q 13) (Q 19) (Q 21) (Q 26) (Q 30) (Q 33) H.size ik (r, 0) e1) fn_S_tear mw_855 ⟨Nat.le_of_ble_eq_true rfl, Nat.le_of_ble_eq_true rfl⟩ ⟨Nat.le_of_ble_eq_true rfl, Nat.le_of_ble_eq_true rfl⟩ hK hT hS hA (va_recv hK hP (ci := 7) (q0 := 0) rfl rfl) hP hD [0] rfl (by decide) rfl rfl rfl rfl hl (Nat.le_of_ble_eq_true rfl) dL_law_1370 (fun H locs hP hD hS => ?_)
  refine lv_aload_n hx hb dL_law_1373 rfl (lv_at hl 2 rfl) ?_
  refine kWVp (rest := [.int r]) (Wn := WX E Q 0 pn ph ps en eh es tn th ts (nI T) tat ksz kln cch cmo 0 mmo (nI T) mhe mfa mva pb pk pf pd eb ek ef ed tb tk tf td tpb kty kst kvl shw shz cst cwo fo ms mke mbe mfi msh mwo mst mta mbi mlo shn mce mbt) C (k_M_tear l E (Q 34) (Q 35) (Q 36) (Q 37) (Q 38) (Q 39) (Q 40) (Q 41) (Q 42) (Q 43) (Q 44) (Q 45) (Q 46) H.size mik mmo (nI T) mhe mfa mva (r, 0) e2) fn_M_tear mw_1315 ⟨Nat.le_of_ble_eq_true rfl, Nat.le_of_ble_eq_true rfl⟩ ⟨Nat.le_of_ble_eq_true rfl, Nat.le_of_ble_eq_true rfl⟩ hK hT hS hA (va_recv hK hP (ci := 8) (q0 := 34) rfl rfl) hP hD [34] rfl (by decide) rfl rfl rfl rfl hl (Nat.le_of_ble_eq_true rfl) dL_law_1374 (fun H locs hP hD hS => ?_)
  refine lv_icmp_eq (tgt := 1428) hx hb dL_law_1377 (by decide) (fun _ => ?_) (fun q => absurd rfl q)
  exact kk _ _ ⟨0, pn, ph, ps, en, eh, es, tn, th, ts, (nI T), tat, ksz, kln, cch, cmo, 0, mmo, (nI T), mhe, mfa, mva, pb, pk, pf, pd, eb, ek, ef, ed, tb, tk, tf, td, tpb, kty, kst, kvl, shw, shz, cst, cwo, fo, ms, mke, mbe, mfi, msh, mwo, mst, mta, mbi, mlo, shn, mce, mbt, ⟨hF, ⟨_, _, _, _, _, _, _, hPl⟩, (Or.inl ⟨rfl, rfl⟩), ⟨T, rfl, rfl, hTp⟩, _, hSh⟩, hP, hD⟩ hS
set_option maxHeartbeats 4000000 in
set_option maxRecDepth 100000 in
theorem law_count {p : Program} {l : Launch} {e : Env} {s : State} {m : MethodId} {below : List Frame} {meth : Method} {c : Code} {H : Heap} {locs : List Loc} {Z : State → Prop} {E : kE} {Q : Nat → Nat} {b L i : Nat} {xs : Nat → Int32} {ls : Array Slot} (K : lawK E b L xs p s m meth c) (hi : i + 6 ≤ L) (hI : Inv E Q (AA s) H) (hS : va_S (AA s) s.heap H locs) (hl : lv_has ls 4 (lawL b (Q 0) (Q 34) i)) (kk : ∀ (H : Heap) (locs : List Loc), Inv E Q (AA s) H → va_S (AA s) s.heap H locs → W p l e room_1 s m #[Value.ref b] below meth c H locs 47 1498 Z (F0 m 1428 ls [])) : W p l e room_1 s m #[Value.ref b] below meth c H locs 47 1498 Z (F0 m 1382 ls []) := by
  obtain ⟨C, hK, hT, hX, hbl, hL⟩ := id K
  obtain ⟨hx, hb, hr, hml, hown, hw, hlocks⟩ := id C
  have hA : ∀ q : Nat, s.heap.size ≤ q → AA s q := fun _ h => h
  obtain ⟨ik, pn, ph, ps, en, eh, es, tn, th, ts, tpl, tat, ksz, kln, cch, cmo, mik, mmo, mtd, mhe, mfa, mva, pb, pk, pf, pd, eb, ek, ef, ed, tb, tk, tf, td, tpb, kty, kst, kvl, shw, shz, cst, cwo, fo, ms, mke, mbe, mfi, msh, mwo, mst, mta, mbi, mlo, shn, mce, mbt, hRel, hP, hD⟩ := hI
  obtain ⟨hF, ⟨B, K0, F, D, N, H0, S, hPl⟩, hIk, ⟨T, rfl, rfl, hTp⟩, Z0, hSh⟩ := hRel
  refine lv_aload_n hx hb dL_law_1382 rfl (lv_at hl 1 rfl) ?_
  refine law_ld K hi hS hl (k := 1) (by decide) (by decide) dL_law_1383 dL_law_1384 dL_law_1385 dL_law_1386 dL_law_1387 ?_
  obtain ⟨r, c', d', e1, e2, hF⟩ := case_count hF hPl (rfl : nI T = nI T) (xs (i + 1))
  refine kWVp (rest := []) (Wn := WX E Q ik pn ph ps en eh es tn th ts (nI T) tat ksz kln cch cmo mik mmo (nI T) mhe mfa mva pb pk pf pd eb ek ef ed tb tk tf td tpb kty kst kvl shw shz cst cwo c' ms mke mbe mfi msh mwo mst mta mbi mlo shn mce mbt) C (k_S_count l E (Q 0) (Q 33) (Q 1) (Q 2) (Q 3) (Q 5) (Q 19) (Q 7) (Q 13) (Q 21) (Q 26) (Q 30) (Q 4) (Q 6) (Q 20) H.size ik fo pn ph ps pb pf (nI T) (xs (i + 1)) (r, c') e1) fn_S_count mw_859 ⟨Nat.le_of_ble_eq_true rfl, Nat.le_of_ble_eq_true rfl⟩ ⟨Nat.le_of_ble_eq_true rfl, Nat.le_of_ble_eq_true rfl⟩ hK hT hS hA (va_recv hK hP (ci := 7) (q0 := 0) rfl rfl) hP hD [0, 33, 1, 2, 3, 5, 19] rfl (by decide) rfl rfl rfl rfl hl (Nat.le_of_ble_eq_true rfl) dL_law_1388 (fun H locs hP hD hS => ?_)
  refine lv_aload_n hx hb dL_law_1391 rfl (lv_at hl 2 rfl) ?_
  refine law_ld K hi hS hl (k := 1) (by decide) (by decide) dL_law_1392 dL_law_1393 dL_law_1394 dL_law_1395 dL_law_1396 ?_
  refine kWVp (rest := [.int r]) (Wn := WX E Q ik pn ph ps en eh es tn th ts (nI T) tat ksz kln cch cmo mik mmo (nI T) mhe mfa mva pb pk pf pd eb ek ef ed tb tk tf td tpb kty kst kvl shw shz cst cwo c' ms mke mbe d' msh mwo mst mta mbi mlo shn mce mbt) C (k_M_count l E (Q 34) (Q 38) (Q 35) (Q 36) (Q 37) (Q 39) (Q 40) (Q 41) (Q 42) (Q 43) (Q 44) (Q 45) (Q 46) H.size mik mmo (nI T) mhe mfa mva mfi ms (xs (i + 1)) (r, d') e2) fn_M_count mw_1319 ⟨Nat.le_of_ble_eq_true rfl, Nat.le_of_ble_eq_true rfl⟩ ⟨Nat.le_of_ble_eq_true rfl, Nat.le_of_ble_eq_true rfl⟩ hK hT hS hA (va_recv hK hP (ci := 8) (q0 := 34) rfl rfl) hP hD [34, 38, 35] rfl (by decide) rfl rfl rfl rfl hl (Nat.le_of_ble_eq_true rfl) dL_law_1397 (fun H locs hP hD hS => ?_)
  refine lv_icmp_eq (tgt := 1428) hx hb dL_law_1400 (by decide) (fun _ => ?_) (fun q => absurd rfl q)
  exact kk _ _ ⟨ik, pn, ph, ps, en, eh, es, tn, th, ts, (nI T), tat, ksz, kln, cch, cmo, mik, mmo, (nI T), mhe, mfa, mva, pb, pk, pf, pd, eb, ek, ef, ed, tb, tk, tf, td, tpb, kty, kst, kvl, shw, shz, cst, cwo, c', ms, mke, mbe, d', msh, mwo, mst, mta, mbi, mlo, shn, mce, mbt, ⟨hF, ⟨_, _, _, _, _, _, _, hPl⟩, hIk, ⟨T, rfl, rfl, hTp⟩, _, hSh⟩, hP, hD⟩ hS
set_option maxHeartbeats 4000000 in
set_option maxRecDepth 100000 in
theorem law_status {p : Program} {l : Launch} {e : Env} {s : State} {m : MethodId} {below : List Frame} {meth : Method} {c : Code} {H : Heap} {locs : List Loc} {Z : State → Prop} {E : kE} {Q : Nat → Nat} {b L i : Nat} {xs : Nat → Int32} {ls : Array Slot} (K : lawK E b L xs p s m meth c) (hi : i + 6 ≤ L) (hI : Inv E Q (AA s) H) (hS : va_S (AA s) s.heap H locs) (hl : lv_has ls 4 (lawL b (Q 0) (Q 34) i)) (kk : ∀ (H : Heap) (locs : List Loc), Inv E Q (AA s) H → va_S (AA s) s.heap H locs → W p l e room_1 s m #[Value.ref b] below meth c H locs 47 1498 Z (F0 m 1428 ls [])) : W p l e room_1 s m #[Value.ref b] below meth c H locs 47 1498 Z (F0 m 1405 ls []) := by
  obtain ⟨C, hK, hT, hX, hbl, hL⟩ := id K
  obtain ⟨hx, hb, hr, hml, hown, hw, hlocks⟩ := id C
  have hA : ∀ q : Nat, s.heap.size ≤ q → AA s q := fun _ h => h
  obtain ⟨ik, pn, ph, ps, en, eh, es, tn, th, ts, tpl, tat, ksz, kln, cch, cmo, mik, mmo, mtd, mhe, mfa, mva, pb, pk, pf, pd, eb, ek, ef, ed, tb, tk, tf, td, tpb, kty, kst, kvl, shw, shz, cst, cwo, fo, ms, mke, mbe, mfi, msh, mwo, mst, mta, mbi, mlo, shn, mce, mbt, hRel, hP, hD⟩ := hI
  obtain ⟨hF, ⟨B, K0, F, D, N, H0, S, hPl⟩, hIk, ⟨T, rfl, rfl, hTp⟩, Z0, hSh⟩ := hRel
  refine lv_aload_n hx hb dL_law_1405 rfl (lv_at hl 1 rfl) ?_
  refine law_ld K hi hS hl (k := 1) (by decide) (by decide) dL_law_1406 dL_law_1407 dL_law_1408 dL_law_1409 dL_law_1410 ?_
  obtain ⟨r, c', d', e1, e2, hF⟩ := case_status hF (xs (i + 1))
  refine kWVp (rest := []) (Wn := WX E Q ik pn ph ps en eh es tn th ts (nI T) tat ksz kln cch cmo mik mmo (nI T) mhe mfa mva pb pk pf pd eb ek ef ed tb tk tf td tpb kty kst kvl shw shz cst cwo c' ms mke mbe mfi msh mwo mst mta mbi mlo shn mce mbt) C (k_S_status l E (Q 0) (Q 33) (Q 1) (Q 7) (Q 13) (Q 19) (Q 21) (Q 26) (Q 30) H.size ik fo (xs (i + 1)) (r, c') e1) fn_S_status mw_871 ⟨Nat.le_of_ble_eq_true rfl, Nat.le_of_ble_eq_true rfl⟩ ⟨Nat.le_of_ble_eq_true rfl, Nat.le_of_ble_eq_true rfl⟩ hK hT hS hA (va_recv hK hP (ci := 7) (q0 := 0) rfl rfl) hP hD [0, 33] rfl (by decide) rfl rfl rfl rfl hl (Nat.le_of_ble_eq_true rfl) dL_law_1411 (fun H locs hP hD hS => ?_)
  refine lv_aload_n hx hb dL_law_1414 rfl (lv_at hl 2 rfl) ?_
  refine law_ld K hi hS hl (k := 1) (by decide) (by decide) dL_law_1415 dL_law_1416 dL_law_1417 dL_law_1418 dL_law_1419 ?_
  refine kWVp (rest := [.int r]) (Wn := WX E Q ik pn ph ps en eh es tn th ts (nI T) tat ksz kln cch cmo mik mmo (nI T) mhe mfa mva pb pk pf pd eb ek ef ed tb tk tf td tpb kty kst kvl shw shz cst cwo c' ms mke mbe d' msh mwo mst mta mbi mlo shn mce mbt) C (k_M_status l E (Q 34) (Q 38) (Q 35) (Q 36) (Q 37) (Q 39) (Q 40) (Q 41) (Q 42) (Q 43) (Q 44) (Q 45) (Q 46) H.size mik mmo (nI T) mhe mfa mva mfi (xs (i + 1)) (r, d') e2) fn_M_status mw_1331 ⟨Nat.le_of_ble_eq_true rfl, Nat.le_of_ble_eq_true rfl⟩ ⟨Nat.le_of_ble_eq_true rfl, Nat.le_of_ble_eq_true rfl⟩ hK hT hS hA (va_recv hK hP (ci := 8) (q0 := 34) rfl rfl) hP hD [34, 38] rfl (by decide) rfl rfl rfl rfl hl (Nat.le_of_ble_eq_true rfl) dL_law_1420 (fun H locs hP hD hS => ?_)
  refine lv_icmp_eq (tgt := 1428) hx hb dL_law_1423 (by decide) (fun _ => ?_) (fun q => absurd rfl q)
  exact kk _ _ ⟨ik, pn, ph, ps, en, eh, es, tn, th, ts, (nI T), tat, ksz, kln, cch, cmo, mik, mmo, (nI T), mhe, mfa, mva, pb, pk, pf, pd, eb, ek, ef, ed, tb, tk, tf, td, tpb, kty, kst, kvl, shw, shz, cst, cwo, c', ms, mke, mbe, d', msh, mwo, mst, mta, mbi, mlo, shn, mce, mbt, ⟨hF, ⟨_, _, _, _, _, _, _, hPl⟩, hIk, ⟨T, rfl, rfl, hTp⟩, _, hSh⟩, hP, hD⟩ hS
