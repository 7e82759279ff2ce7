def Law_law_1671 (N : Nat) (xs : Nat → Int32) (L : Nat) (re18 : Option Nat → Option Nat → Int32 → Hp → Option (Int32 × Hp)) (l1 : Option Nat) (l2 : Option Nat) (l3 : Int32) (h : Hp) : Option (Int32 × Hp) :=
  nm (l3 + 6) fun x1 =>
  re18 l1 l2 x1 h
def Law_law_1308 (N : Nat) (xs : Nat → Int32) (L : Nat) (re18 : Option Nat → Option Nat → Int32 → Hp → Option (Int32 × Hp)) (l1 : Option Nat) (l2 : Option Nat) (l3 : Int32) (u0 : Int32) (u1 : Option Nat) (u2 : Int32) (u3 : Int32) (h : Hp) : Option (Int32 × Hp) :=
  cl (ds [(12, M_ringer N u1 u2 u3 h)] u1 h) fun x2 h1 =>
  if u0 = x2 then (Law_law_1671 N xs L re18 l1 l2 l3 h1) else (rz 0 h1)
def Law_law_1286 (N : Nat) (xs : Nat → Int32) (L : Nat) (re18 : Option Nat → Option Nat → Int32 → Hp → Option (Int32 × Hp)) (l1 : Option Nat) (l2 : Option Nat) (l3 : Int32) (u0 : Option Nat) (u1 : Int32) (u2 : Int32) (h : Hp) : Option (Int32 × Hp) :=
  cl (ds [(11, C_ringer N u0 u1 u2 h)] u0 h) fun x2 h1 =>
  sld xs L (l3 + (1 : Int32)) fun x3 =>
  sld xs L (l3 + (2 : Int32)) fun x4 =>
  if x4 = 0 then (Law_law_1308 N xs L re18 l1 l2 l3 x2 l2 x3 0 h1) else (Law_law_1308 N xs L re18 l1 l2 l3 x2 l2 x3 1 h1)
def Law_law_18 (N : Nat) (xs : Nat → Int32) (L : Nat) : Nat → Option Nat → Option Nat → Int32 → Hp → Option (Int32 × Hp)
  | 0, _, _, _, _ => none
  | n + 1, l1, l2, l3, h =>
  nm (Int32.ofNat L) fun x1 =>
  if (x1 - (6 : Int32)) < l3 then (rz 1 h) else (sld xs L l3 fun x2 =>
  sw (x2 &&& (63 : Int32)) [(0, sld xs L (l3 + (1 : Int32)) fun x3 =>
  sld xs L (l3 + (2 : Int32)) fun x4 =>
  sld xs L (l3 + (3 : Int32)) fun x5 =>
  sld xs L (l3 + (4 : Int32)) fun x6 =>
  sld xs L (l3 + (5 : Int32)) fun x7 =>
  cl (ds [(11, C_feed N l1 x3 x4 x5 x6 x7 h)] l1 h) fun x9 h8 =>
  sld xs L (l3 + (1 : Int32)) fun x10 =>
  sld xs L (l3 + (2 : Int32)) fun x11 =>
  sld xs L (l3 + (3 : Int32)) fun x12 =>
  sld xs L (l3 + (4 : Int32)) fun x13 =>
  sld xs L (l3 + (5 : Int32)) fun x14 =>
  cl (ds [(12, M_feed N l2 x10 x11 x12 x13 x14 h8)] l2 h8) fun x16 h15 =>
  if x9 = x16 then (Law_law_1671 N xs L (Law_law_18 N xs L n) l1 l2 l3 h15) else (rz 0 h15)), (1, sld xs L (l3 + (1 : Int32)) fun x17 =>
  cl (ds [(11, C_end N l1 x17 h)] l1 h) fun x19 h18 =>
  sld xs L (l3 + (1 : Int32)) fun x20 =>
  cl (ds [(12, M_end N l2 x20 h18)] l2 h18) fun x22 h21 =>
  if x19 = x22 then (Law_law_1671 N xs L (Law_law_18 N xs L n) l1 l2 l3 h21) else (rz 0 h21)), (2, sld xs L (l3 + (1 : Int32)) fun x23 =>
  cl (ds [(11, C_bells N l1 x23 h)] l1 h) fun x25 h24 =>
  sld xs L (l3 + (1 : Int32)) fun x26 =>
  cl (ds [(12, M_bells N l2 x26 h24)] l2 h24) fun x28 h27 =>
  if x25 = x28 then (Law_law_1671 N xs L (Law_law_18 N xs L n) l1 l2 l3 h27) else (rz 0 h27)), (3, sld xs L (l3 + (1 : Int32)) fun x29 =>
  cl (ds [(11, C_method N l1 x29 h)] l1 h) fun x31 h30 =>
  sld xs L (l3 + (1 : Int32)) fun x32 =>
  cl (ds [(12, M_method N l2 x32 h30)] l2 h30) fun x34 h33 =>
  if x31 = x34 then (Law_law_1671 N xs L (Law_law_18 N xs L n) l1 l2 l3 h33) else (rz 0 h33)), (4, sld xs L (l3 + (1 : Int32)) fun x35 =>
  cl (ds [(11, C_notation N l1 x35 h)] l1 h) fun x37 h36 =>
  sld xs L (l3 + (1 : Int32)) fun x38 =>
  cl (ds [(12, M_notation N l2 x38 h36)] l2 h36) fun x40 h39 =>
  if x37 = x40 then (Law_law_1671 N xs L (Law_law_18 N xs L n) l1 l2 l3 h39) else (rz 0 h39)), (5, sld xs L (l3 + (1 : Int32)) fun x41 =>
  sld xs L (l3 + (2 : Int32)) fun x42 =>
  cl (ds [(11, C_cut N l1 x41 x42 h)] l1 h) fun x44 h43 =>
  sld xs L (l3 + (1 : Int32)) fun x45 =>
  sld xs L (l3 + (2 : Int32)) fun x46 =>
  cl (ds [(12, M_cut N l2 x45 x46 h43)] l2 h43) fun x48 h47 =>
  if x44 = x48 then (Law_law_1671 N xs L (Law_law_18 N xs L n) l1 l2 l3 h47) else (rz 0 h47)), (6, sld xs L (l3 + (1 : Int32)) fun x49 =>
  sld xs L (l3 + (2 : Int32)) fun x50 =>
  sld xs L (l3 + (3 : Int32)) fun x51 =>
  sld xs L (l3 + (4 : Int32)) fun x52 =>
  cl (ds [(11, C_called N l1 x49 x50 x51 x52 h)] l1 h) fun x54 h53 =>
  sld xs L (l3 + (1 : Int32)) fun x55 =>
  sld xs L (l3 + (2 : Int32)) fun x56 =>
  sld xs L (l3 + (3 : Int32)) fun x57 =>
  sld xs L (l3 + (4 : Int32)) fun x58 =>
  cl (ds [(12, M_called N l2 x55 x56 x57 x58 h53)] l2 h53) fun x60 h59 =>
  if x54 = x60 then (Law_law_1671 N xs L (Law_law_18 N xs L n) l1 l2 l3 h59) else (rz 0 h59)), (7, sld xs L (l3 + (1 : Int32)) fun x61 =>
  sld xs L (l3 + (2 : Int32)) fun x62 =>
  cl (ds [(11, C_part N l1 x61 x62 h)] l1 h) fun x64 h63 =>
  sld xs L (l3 + (1 : Int32)) fun x65 =>
  sld xs L (l3 + (2 : Int32)) fun x66 =>
  cl (ds [(12, M_part N l2 x65 x66 h63)] l2 h63) fun x68 h67 =>
  if x64 = x68 then (Law_law_1671 N xs L (Law_law_18 N xs L n) l1 l2 l3 h67) else (rz 0 h67)), (8, sld xs L (l3 + (1 : Int32)) fun x69 =>
  sld xs L (l3 + (2 : Int32)) fun x70 =>
  sld xs L (l3 + (3 : Int32)) fun x71 =>
  sld xs L (l3 + (4 : Int32)) fun x72 =>
  cl (ds [(11, C_lead N l1 x69 x70 x71 x72 h)] l1 h) fun x74 h73 =>
  sld xs L (l3 + (1 : Int32)) fun x75 =>
  sld xs L (l3 + (2 : Int32)) fun x76 =>
  sld xs L (l3 + (3 : Int32)) fun x77 =>
  sld xs L (l3 + (4 : Int32)) fun x78 =>
  cl (ds [(12, M_lead N l2 x75 x76 x77 x78 h73)] l2 h73) fun x80 h79 =>
  if x74 = x80 then (Law_law_1671 N xs L (Law_law_18 N xs L n) l1 l2 l3 h79) else (rz 0 h79)), (9, sld xs L (l3 + (1 : Int32)) fun x81 =>
  cl (ds [(11, C_judge N l1 x81 h)] l1 h) fun x83 h82 =>
  sld xs L (l3 + (1 : Int32)) fun x84 =>
  cl (ds [(12, M_judge N l2 x84 h82)] l2 h82) fun x86 h85 =>
  if x83 = x86 then (Law_law_1671 N xs L (Law_law_18 N xs L n) l1 l2 l3 h85) else (rz 0 h85)), (10, sld xs L (l3 + (1 : Int32)) fun x87 =>
  sld xs L (l3 + (2 : Int32)) fun x88 =>
  cl (ds [(11, C_leadHead N l1 x87 x88 h)] l1 h) fun x90 h89 =>
  sld xs L (l3 + (1 : Int32)) fun x91 =>
  sld xs L (l3 + (2 : Int32)) fun x92 =>
  cl (ds [(12, M_leadHead N l2 x91 x92 h89)] l2 h89) fun x94 h93 =>
  if (lg_cmp x90 x94) = 0 then (Law_law_1671 N xs L (Law_law_18 N xs L n) l1 l2 l3 h93) else (rz 0 h93)), (11, sld xs L (l3 + (1 : Int32)) fun x95 =>
  cl (ds [(11, C_course N l1 x95 h)] l1 h) fun x97 h96 =>
  sld xs L (l3 + (1 : Int32)) fun x98 =>
  cl (ds [(12, M_course N l2 x98 h96)] l2 h96) fun x100 h99 =>
  if x97 = x100 then (Law_law_1671 N xs L (Law_law_18 N xs L n) l1 l2 l3 h99) else (rz 0 h99)), (12, sld xs L (l3 + (1 : Int32)) fun x101 =>
  sld xs L (l3 + (2 : Int32)) fun x102 =>
  sld xs L (l3 + (3 : Int32)) fun x103 =>
  cl (ds [(11, C_falseness N l1 x101 (((Int32.toInt64 x102) <<< (Int32.toInt64 (32 : Int32) &&& 63)) ||| ((Int32.toInt64 x103) &&& (4294967295 : Int64))) h)] l1 h) fun x105 h104 =>
  sld xs L (l3 + (1 : Int32)) fun x106 =>
  sld xs L (l3 + (2 : Int32)) fun x107 =>
  sld xs L (l3 + (3 : Int32)) fun x108 =>
  cl (ds [(12, M_falseness N l2 x106 (((Int32.toInt64 x107) <<< (Int32.toInt64 (32 : Int32) &&& 63)) ||| ((Int32.toInt64 x108) &&& (4294967295 : Int64))) h104)] l2 h104) fun x110 h109 =>
  if x105 = x110 then (Law_law_1671 N xs L (Law_law_18 N xs L n) l1 l2 l3 h109) else (rz 0 h109)), (13, sld xs L (l3 + (1 : Int32)) fun x111 =>
  sld xs L (l3 + (2 : Int32)) fun x112 =>
  cl (ds [(11, C_trace N l1 x111 x112 h)] l1 h) fun x114 h113 =>
  sld xs L (l3 + (1 : Int32)) fun x115 =>
  sld xs L (l3 + (2 : Int32)) fun x116 =>
  cl (ds [(12, M_trace N l2 x115 x116 h113)] l2 h113) fun x118 h117 =>
  if x114 = x118 then (Law_law_1671 N xs L (Law_law_18 N xs L n) l1 l2 l3 h117) else (rz 0 h117)), (14, sld xs L (l3 + (1 : Int32)) fun x119 =>
  sld xs L (l3 + (2 : Int32)) fun x120 =>
  sld xs L (l3 + (3 : Int32)) fun x121 =>
  cl (ds [(11, C_change N l1 (((Int32.toInt64 x119) <<< (Int32.toInt64 (32 : Int32) &&& 63)) ||| ((Int32.toInt64 x120) &&& (4294967295 : Int64))) x121 h)] l1 h) fun x123 h122 =>
  sld xs L (l3 + (1 : Int32)) fun x124 =>
  sld xs L (l3 + (2 : Int32)) fun x125 =>
  sld xs L (l3 + (3 : Int32)) fun x126 =>
  cl (ds [(12, M_change N l2 (((Int32.toInt64 x124) <<< (Int32.toInt64 (32 : Int32) &&& 63)) ||| ((Int32.toInt64 x125) &&& (4294967295 : Int64))) x126 h122)] l2 h122) fun x128 h127 =>
  if (lg_cmp x123 x128) = 0 then (Law_law_1671 N xs L (Law_law_18 N xs L n) l1 l2 l3 h127) else (rz 0 h127)), (15, sld xs L (l3 + (1 : Int32)) fun x129 =>
  sld xs L (l3 + (2 : Int32)) fun x130 =>
  cl (ds [(11, C_number N l1 (((Int32.toInt64 x129) <<< (Int32.toInt64 (32 : Int32) &&& 63)) ||| ((Int32.toInt64 x130) &&& (4294967295 : Int64))) h)] l1 h) fun x132 h131 =>
  sld xs L (l3 + (1 : Int32)) fun x133 =>
  sld xs L (l3 + (2 : Int32)) fun x134 =>
  cl (ds [(12, M_number N l2 (((Int32.toInt64 x133) <<< (Int32.toInt64 (32 : Int32) &&& 63)) ||| ((Int32.toInt64 x134) &&& (4294967295 : Int64))) h131)] l2 h131) fun x136 h135 =>
  if x132 = x136 then (Law_law_1671 N xs L (Law_law_18 N xs L n) l1 l2 l3 h135) else (rz 0 h135)), (16, sld xs L (l3 + (1 : Int32)) fun x137 =>
  cl (ds [(11, C_ofNumber N l1 x137 h)] l1 h) fun x139 h138 =>
  sld xs L (l3 + (1 : Int32)) fun x140 =>
  cl (ds [(12, M_ofNumber N l2 x140 h138)] l2 h138) fun x142 h141 =>
  if (lg_cmp x139 x142) = 0 then (Law_law_1671 N xs L (Law_law_18 N xs L n) l1 l2 l3 h141) else (rz 0 h141)), (17, sld xs L (l3 + (1 : Int32)) fun x143 =>
  sld xs L (l3 + (2 : Int32)) fun x144 =>
  sld xs L (l3 + (3 : Int32)) fun x145 =>
  sld xs L (l3 + (4 : Int32)) fun x146 =>
  cl (ds [(11, C_product N l1 (((Int32.toInt64 x143) <<< (Int32.toInt64 (32 : Int32) &&& 63)) ||| ((Int32.toInt64 x144) &&& (4294967295 : Int64))) (((Int32.toInt64 x145) <<< (Int32.toInt64 (32 : Int32) &&& 63)) ||| ((Int32.toInt64 x146) &&& (4294967295 : Int64))) h)] l1 h) fun x148 h147 =>
  sld xs L (l3 + (1 : Int32)) fun x149 =>
  sld xs L (l3 + (2 : Int32)) fun x150 =>
  sld xs L (l3 + (3 : Int32)) fun x151 =>
  sld xs L (l3 + (4 : Int32)) fun x152 =>
  cl (ds [(12, M_product N l2 (((Int32.toInt64 x149) <<< (Int32.toInt64 (32 : Int32) &&& 63)) ||| ((Int32.toInt64 x150) &&& (4294967295 : Int64))) (((Int32.toInt64 x151) <<< (Int32.toInt64 (32 : Int32) &&& 63)) ||| ((Int32.toInt64 x152) &&& (4294967295 : Int64))) h147)] l2 h147) fun x154 h153 =>
  if (lg_cmp x148 x154) = 0 then (Law_law_1671 N xs L (Law_law_18 N xs L n) l1 l2 l3 h153) else (rz 0 h153)), (18, sld xs L (l3 + (1 : Int32)) fun x155 =>
  sld xs L (l3 + (2 : Int32)) fun x156 =>
  cl (ds [(11, C_inverse N l1 (((Int32.toInt64 x155) <<< (Int32.toInt64 (32 : Int32) &&& 63)) ||| ((Int32.toInt64 x156) &&& (4294967295 : Int64))) h)] l1 h) fun x158 h157 =>
  sld xs L (l3 + (1 : Int32)) fun x159 =>
  sld xs L (l3 + (2 : Int32)) fun x160 =>
  cl (ds [(12, M_inverse N l2 (((Int32.toInt64 x159) <<< (Int32.toInt64 (32 : Int32) &&& 63)) ||| ((Int32.toInt64 x160) &&& (4294967295 : Int64))) h157)] l2 h157) fun x162 h161 =>
  if (lg_cmp x158 x162) = 0 then (Law_law_1671 N xs L (Law_law_18 N xs L n) l1 l2 l3 h161) else (rz 0 h161)), (19, sld xs L (l3 + (1 : Int32)) fun x163 =>
  sld xs L (l3 + (2 : Int32)) fun x164 =>
  cl (ds [(11, C_order N l1 (((Int32.toInt64 x163) <<< (Int32.toInt64 (32 : Int32) &&& 63)) ||| ((Int32.toInt64 x164) &&& (4294967295 : Int64))) h)] l1 h) fun x166 h165 =>
  sld xs L (l3 + (1 : Int32)) fun x167 =>
  sld xs L (l3 + (2 : Int32)) fun x168 =>
  cl (ds [(12, M_order N l2 (((Int32.toInt64 x167) <<< (Int32.toInt64 (32 : Int32) &&& 63)) ||| ((Int32.toInt64 x168) &&& (4294967295 : Int64))) h165)] l2 h165) fun x170 h169 =>
  if x166 = x170 then (Law_law_1671 N xs L (Law_law_18 N xs L n) l1 l2 l3 h169) else (rz 0 h169)), (20, sld xs L (l3 + (1 : Int32)) fun x171 =>
  sld xs L (l3 + (2 : Int32)) fun x172 =>
  cl (ds [(11, C_touch N l1 x171 x172 h)] l1 h) fun x174 h173 =>
  sld xs L (l3 + (1 : Int32)) fun x175 =>
  sld xs L (l3 + (2 : Int32)) fun x176 =>
  cl (ds [(12, M_touch N l2 x175 x176 h173)] l2 h173) fun x178 h177 =>
  if x174 = x178 then (Law_law_1671 N xs L (Law_law_18 N xs L n) l1 l2 l3 h177) else (rz 0 h177)), (21, cl (ds [(11, C_clear N l1 h)] l1 h) fun x180 h179 =>
  cl (ds [(12, M_clear N l2 h179)] l2 h179) fun x182 h181 =>
  if x180 = x182 then (Law_law_1671 N xs L (Law_law_18 N xs L n) l1 l2 l3 h181) else (rz 0 h181)), (22, cl (ds [(11, C_ring N l1 h)] l1 h) fun x184 h183 =>
  cl (ds [(12, M_ring N l2 h183)] l2 h183) fun x186 h185 =>
  if x184 = x186 then (Law_law_1671 N xs L (Law_law_18 N xs L n) l1 l2 l3 h185) else (rz 0 h185)), (23, sld xs L (l3 + (1 : Int32)) fun x187 =>
  cl (ds [(11, C_on N l1 x187 h)] l1 h) fun x189 h188 =>
  sld xs L (l3 + (1 : Int32)) fun x190 =>
  cl (ds [(12, M_on N l2 x190 h188)] l2 h188) fun x192 h191 =>
  if x189 = x192 then (Law_law_1671 N xs L (Law_law_18 N xs L n) l1 l2 l3 h191) else (rz 0 h191)), (24, sld xs L (l3 + (1 : Int32)) fun x193 =>
  cl (ds [(11, C_at N l1 x193 h)] l1 h) fun x195 h194 =>
  sld xs L (l3 + (1 : Int32)) fun x196 =>
  cl (ds [(12, M_at N l2 x196 h194)] l2 h194) fun x198 h197 =>
  if (lg_cmp x195 x198) = 0 then (Law_law_1671 N xs L (Law_law_18 N xs L n) l1 l2 l3 h197) else (rz 0 h197)), (25, cl (ds [(11, C_round N l1 h)] l1 h) fun x200 h199 =>
  cl (ds [(12, M_round N l2 h199)] l2 h199) fun x202 h201 =>
  if x200 = x202 then (Law_law_1671 N xs L (Law_law_18 N xs L n) l1 l2 l3 h201) else (rz 0 h201)), (26, cl (ds [(11, C_falseAt N l1 h)] l1 h) fun x204 h203 =>
  cl (ds [(12, M_falseAt N l2 h203)] l2 h203) fun x206 h205 =>
  if x204 = x206 then (Law_law_1671 N xs L (Law_law_18 N xs L n) l1 l2 l3 h205) else (rz 0 h205)), (27, cl (ds [(11, C_proof N l1 h)] l1 h) fun x208 h207 =>
  cl (ds [(12, M_proof N l2 h207)] l2 h207) fun x210 h209 =>
  if x208 = x210 then (Law_law_1671 N xs L (Law_law_18 N xs L n) l1 l2 l3 h209) else (rz 0 h209)), (28, sld xs L (l3 + (1 : Int32)) fun x211 =>
  cl (ds [(11, C_proofAt N l1 x211 h)] l1 h) fun x213 h212 =>
  sld xs L (l3 + (1 : Int32)) fun x214 =>
  cl (ds [(12, M_proofAt N l2 x214 h212)] l2 h212) fun x216 h215 =>
  if x213 = x216 then (Law_law_1671 N xs L (Law_law_18 N xs L n) l1 l2 l3 h215) else (rz 0 h215)), (29, sld xs L (l3 + (1 : Int32)) fun x217 =>
  sld xs L (l3 + (2 : Int32)) fun x218 =>
  cl (ds [(11, C_forge N l1 x217 x218 h)] l1 h) fun x220 h219 =>
  sld xs L (l3 + (1 : Int32)) fun x221 =>
  sld xs L (l3 + (2 : Int32)) fun x222 =>
  cl (ds [(12, M_forge N l2 x221 x222 h219)] l2 h219) fun x224 h223 =>
  if x220 = x224 then (Law_law_1671 N xs L (Law_law_18 N xs L n) l1 l2 l3 h223) else (rz 0 h223)), (30, cl (ds [(11, C_check N l1 h)] l1 h) fun x226 h225 =>
  cl (ds [(12, M_check N l2 h225)] l2 h225) fun x228 h227 =>
  if x226 = x228 then (Law_law_1671 N xs L (Law_law_18 N xs L n) l1 l2 l3 h227) else (rz 0 h227)), (31, sld xs L (l3 + (1 : Int32)) fun x229 =>
  sld xs L (l3 + (2 : Int32)) fun x230 =>
  if x230 = 0 then (Law_law_1286 N xs L (Law_law_18 N xs L n) l1 l2 l3 l1 x229 0 h) else (Law_law_1286 N xs L (Law_law_18 N xs L n) l1 l2 l3 l1 x229 1 h)), (32, sld xs L (l3 + (1 : Int32)) fun x231 =>
  cl (ds [(11, C_heard N l1 x231 h)] l1 h) fun x233 h232 =>
  sld xs L (l3 + (1 : Int32)) fun x234 =>
  cl (ds [(12, M_heard N l2 x234 h232)] l2 h232) fun x236 h235 =>
  if (lg_cmp x233 x236) = 0 then (Law_law_1671 N xs L (Law_law_18 N xs L n) l1 l2 l3 h235) else (rz 0 h235)), (33, sld xs L (l3 + (1 : Int32)) fun x237 =>
  sld xs L (l3 + (2 : Int32)) fun x238 =>
  sld xs L (l3 + (3 : Int32)) fun x239 =>
  sld xs L (l3 + (4 : Int32)) fun x240 =>
  cl (ds [(11, C_fits N l1 (((Int32.toInt64 x237) <<< (Int32.toInt64 (32 : Int32) &&& 63)) ||| ((Int32.toInt64 x238) &&& (4294967295 : Int64))) (((Int32.toInt64 x239) <<< (Int32.toInt64 (32 : Int32) &&& 63)) ||| ((Int32.toInt64 x240) &&& (4294967295 : Int64))) h)] l1 h) fun x242 h241 =>
  sld xs L (l3 + (1 : Int32)) fun x243 =>
  sld xs L (l3 + (2 : Int32)) fun x244 =>
  sld xs L (l3 + (3 : Int32)) fun x245 =>
  sld xs L (l3 + (4 : Int32)) fun x246 =>
  cl (ds [(12, M_fits N l2 (((Int32.toInt64 x243) <<< (Int32.toInt64 (32 : Int32) &&& 63)) ||| ((Int32.toInt64 x244) &&& (4294967295 : Int64))) (((Int32.toInt64 x245) <<< (Int32.toInt64 (32 : Int32) &&& 63)) ||| ((Int32.toInt64 x246) &&& (4294967295 : Int64))) h241)] l2 h241) fun x248 h247 =>
  if x242 = x248 then (Law_law_1671 N xs L (Law_law_18 N xs L n) l1 l2 l3 h247) else (rz 0 h247)), (34, sld xs L (l3 + (1 : Int32)) fun x249 =>
  sld xs L (l3 + (2 : Int32)) fun x250 =>
  cl (ds [(11, C_music N l1 (((Int32.toInt64 x249) <<< (Int32.toInt64 (32 : Int32) &&& 63)) ||| ((Int32.toInt64 x250) &&& (4294967295 : Int64))) h)] l1 h) fun x252 h251 =>
  sld xs L (l3 + (1 : Int32)) fun x253 =>
  sld xs L (l3 + (2 : Int32)) fun x254 =>
  cl (ds [(12, M_music N l2 (((Int32.toInt64 x253) <<< (Int32.toInt64 (32 : Int32) &&& 63)) ||| ((Int32.toInt64 x254) &&& (4294967295 : Int64))) h251)] l2 h251) fun x256 h255 =>
  if x252 = x256 then (Law_law_1671 N xs L (Law_law_18 N xs L n) l1 l2 l3 h255) else (rz 0 h255)), (35, sld xs L (l3 + (1 : Int32)) fun x257 =>
  sld xs L (l3 + (2 : Int32)) fun x258 =>
  cl (ds [(11, C_allow N l1 x257 x258 h)] l1 h) fun x260 h259 =>
  sld xs L (l3 + (1 : Int32)) fun x261 =>
  sld xs L (l3 + (2 : Int32)) fun x262 =>
  cl (ds [(12, M_allow N l2 x261 x262 h259)] l2 h259) fun x264 h263 =>
  if x260 = x264 then (Law_law_1671 N xs L (Law_law_18 N xs L n) l1 l2 l3 h263) else (rz 0 h263)), (36, sld xs L (l3 + (1 : Int32)) fun x265 =>
  sld xs L (l3 + (2 : Int32)) fun x266 =>
  sld xs L (l3 + (3 : Int32)) fun x267 =>
  sld xs L (l3 + (4 : Int32)) fun x268 =>
  sld xs L (l3 + (5 : Int32)) fun x269 =>
  cl (ds [(11, C_search N l1 x265 x266 (((Int32.toInt64 x267) <<< (Int32.toInt64 (32 : Int32) &&& 63)) ||| ((Int32.toInt64 x268) &&& (4294967295 : Int64))) x269 h)] l1 h) fun x271 h270 =>
  sld xs L (l3 + (1 : Int32)) fun x272 =>
  sld xs L (l3 + (2 : Int32)) fun x273 =>
  sld xs L (l3 + (3 : Int32)) fun x274 =>
  sld xs L (l3 + (4 : Int32)) fun x275 =>
  sld xs L (l3 + (5 : Int32)) fun x276 =>
  cl (ds [(12, M_search N l2 x272 x273 (((Int32.toInt64 x274) <<< (Int32.toInt64 (32 : Int32) &&& 63)) ||| ((Int32.toInt64 x275) &&& (4294967295 : Int64))) x276 h270)] l2 h270) fun x278 h277 =>
  if x271 = x278 then (Law_law_1671 N xs L (Law_law_18 N xs L n) l1 l2 l3 h277) else (rz 0 h277)), (37, sld xs L (l3 + (1 : Int32)) fun x279 =>
  cl (ds [(11, C_goOn N l1 x279 h)] l1 h) fun x281 h280 =>
  sld xs L (l3 + (1 : Int32)) fun x282 =>
  cl (ds [(12, M_goOn N l2 x282 h280)] l2 h280) fun x284 h283 =>
  if x281 = x284 then (Law_law_1671 N xs L (Law_law_18 N xs L n) l1 l2 l3 h283) else (rz 0 h283)), (38, sld xs L (l3 + (1 : Int32)) fun x285 =>
  cl (ds [(11, C_found N l1 x285 h)] l1 h) fun x287 h286 =>
  sld xs L (l3 + (1 : Int32)) fun x288 =>
  cl (ds [(12, M_found N l2 x288 h286)] l2 h286) fun x290 h289 =>
  if x287 = x290 then (Law_law_1671 N xs L (Law_law_18 N xs L n) l1 l2 l3 h289) else (rz 0 h289)), (39, sld xs L (l3 + (1 : Int32)) fun x291 =>
  cl (ds [(11, C_count N l1 x291 h)] l1 h) fun x293 h292 =>
  sld xs L (l3 + (1 : Int32)) fun x294 =>
  cl (ds [(12, M_count_4 N l2 x294 h292)] l2 h292) fun x296 h295 =>
  if x293 = x296 then (Law_law_1671 N xs L (Law_law_18 N xs L n) l1 l2 l3 h295) else (rz 0 h295))] (Law_law_1671 N xs L (Law_law_18 N xs L n) l1 l2 l3 h))
def Law_law (N : Nat) (xs : Nat → Int32) (L : Nat) (h : Hp) : Option (Int32 × Hp) :=
  nw 11 h fun x1 h2 =>
  cl (ck [11] x1 h2 (C_init N x1 h2)) fun _ h3 =>
  nw 12 h3 fun x4 h5 =>
  cl (ck [12] x4 h5 (M_init N x4 h5)) fun _ h6 =>
  Law_law_18 N xs L N x1 x4 0 h6
