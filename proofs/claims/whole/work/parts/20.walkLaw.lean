def lo_Law (xs : Nat → Int32) (L : Nat) : Nat → NjS → MdS → Int32 → Option Unit
  | 0, _, _, _ => none
  | n + 1, s, m, v3 => (if ((Int32.ofNat L) - (6 : Int32)) < v3 then (some ()) else (bif nj_in v3 L then (if ((xs (nj_n v3)) &&& (63 : Int32)) = (0 : Int32) then (bif nj_in (v3 + (1 : Int32)) L then (bif nj_in (v3 + (2 : Int32)) L then ((mo_Nj_row s (xs (nj_n (v3 + (1 : Int32)))) (xs (nj_n (v3 + (2 : Int32))))).bind (fun w4 => (bif nj_in (v3 + (1 : Int32)) L then (bif nj_in (v3 + (2 : Int32)) L then ((mo_Md_row m (xs (nj_n (v3 + (1 : Int32)))) (xs (nj_n (v3 + (2 : Int32))))).bind (fun w8 => (if (w4.1) = (w8.1) then (lo_Law xs L n (w4.2) (w8.2) (v3 + (6 : Int32))) else none))) else none) else none))) else none) else none) else (if ((xs (nj_n v3)) &&& (63 : Int32)) = (1 : Int32) then (bif nj_in (v3 + (1 : Int32)) L then (bif nj_in (v3 + (2 : Int32)) L then (bif nj_in (v3 + (3 : Int32)) L then ((mo_Nj_lay s (xs (nj_n (v3 + (1 : Int32)))) (xs (nj_n (v3 + (2 : Int32)))) (xs (nj_n (v3 + (3 : Int32))))).bind (fun w14 => (bif nj_in (v3 + (1 : Int32)) L then (bif nj_in (v3 + (2 : Int32)) L then (bif nj_in (v3 + (3 : Int32)) L then ((mo_Md_lay m (xs (nj_n (v3 + (1 : Int32)))) (xs (nj_n (v3 + (2 : Int32)))) (xs (nj_n (v3 + (3 : Int32))))).bind (fun w19 => (if (w14.1) = (w19.1) then (lo_Law xs L n (w14.2) (w19.2) (v3 + (6 : Int32))) else none))) else none) else none) else none))) else none) else none) else none) else (if ((xs (nj_n v3)) &&& (63 : Int32)) = (2 : Int32) then (bif nj_in (v3 + (1 : Int32)) L then (bif nj_in (v3 + (2 : Int32)) L then ((mo_Nj_at s (xs (nj_n (v3 + (1 : Int32)))) (xs (nj_n (v3 + (2 : Int32))))).bind (fun w24 => (bif nj_in (v3 + (1 : Int32)) L then (bif nj_in (v3 + (2 : Int32)) L then ((mo_Md_at m (xs (nj_n (v3 + (1 : Int32)))) (xs (nj_n (v3 + (2 : Int32))))).bind (fun w28 => (if (w24.1) = (w28.1) then (lo_Law xs L n (w24.2) (w28.2) (v3 + (6 : Int32))) else none))) else none) else none))) else none) else none) else (if ((xs (nj_n v3)) &&& (63 : Int32)) = (3 : Int32) then (bif nj_in (v3 + (1 : Int32)) L then ((mo_Nj_tear s (xs (nj_n (v3 + (1 : Int32))))).bind (fun w32 => (bif nj_in (v3 + (1 : Int32)) L then ((mo_Md_tear m (xs (nj_n (v3 + (1 : Int32))))).bind (fun w35 => (if (w32.1) = (w35.1) then (lo_Law xs L n (w32.2) (w35.2) (v3 + (6 : Int32))) else none))) else none))) else none) else (if ((xs (nj_n v3)) &&& (63 : Int32)) = (4 : Int32) then (bif nj_in (v3 + (1 : Int32)) L then (bif nj_in (v3 + (2 : Int32)) L then (bif nj_in (v3 + (3 : Int32)) L then (bif nj_in (v3 + (4 : Int32)) L then (bif nj_in (v3 + (5 : Int32)) L then ((mo_Nj_copy s (xs (nj_n (v3 + (1 : Int32)))) (xs (nj_n (v3 + (2 : Int32)))) (xs (nj_n (v3 + (3 : Int32)))) (xs (nj_n (v3 + (4 : Int32)))) (xs (nj_n (v3 + (5 : Int32))))).bind (fun w43 => (bif nj_in (v3 + (1 : Int32)) L then (bif nj_in (v3 + (2 : Int32)) L then (bif nj_in (v3 + (3 : Int32)) L then (bif nj_in (v3 + (4 : Int32)) L then (bif nj_in (v3 + (5 : Int32)) L then ((mo_Md_copy m (xs (nj_n (v3 + (1 : Int32)))) (xs (nj_n (v3 + (2 : Int32)))) (xs (nj_n (v3 + (3 : Int32)))) (xs (nj_n (v3 + (4 : Int32)))) (xs (nj_n (v3 + (5 : Int32))))).bind (fun w50 => (if (w43.1) = (w50.1) then (lo_Law xs L n (w43.2) (w50.2) (v3 + (6 : Int32))) else none))) else none) else none) else none) else none) else none))) else none) else none) else none) else none) else none) else (if ((xs (nj_n v3)) &&& (63 : Int32)) = (5 : Int32) then (bif nj_in (v3 + (1 : Int32)) L then ((mo_Nj_mean s (xs (nj_n (v3 + (1 : Int32))))).bind (fun w54 => (bif nj_in (v3 + (1 : Int32)) L then ((mo_Md_mean m (xs (nj_n (v3 + (1 : Int32))))).bind (fun w57 => (if (w54.1) = (w57.1) then (lo_Law xs L n (w54.2) (w57.2) (v3 + (6 : Int32))) else none))) else none))) else none) else (if ((xs (nj_n v3)) &&& (63 : Int32)) = (6 : Int32) then (bif nj_in (v3 + (1 : Int32)) L then (bif nj_in (v3 + (2 : Int32)) L then ((mo_Nj_text s (xs (nj_n (v3 + (1 : Int32)))) (xs (nj_n (v3 + (2 : Int32))))).bind (fun w62 => (bif nj_in (v3 + (1 : Int32)) L then (bif nj_in (v3 + (2 : Int32)) L then ((mo_Md_text m (xs (nj_n (v3 + (1 : Int32)))) (xs (nj_n (v3 + (2 : Int32))))).bind (fun w66 => (if (w62.1) = (w66.1) then (lo_Law xs L n (w62.2) (w66.2) (v3 + (6 : Int32))) else none))) else none) else none))) else none) else none) else (if ((xs (nj_n v3)) &&& (63 : Int32)) = (7 : Int32) then (bif nj_in (v3 + (1 : Int32)) L then (bif nj_in (v3 + (2 : Int32)) L then (bif nj_in (v3 + (3 : Int32)) L then ((mo_Nj_put s (xs (nj_n (v3 + (1 : Int32)))) (xs (nj_n (v3 + (2 : Int32)))) (xs (nj_n (v3 + (3 : Int32))))).bind (fun w72 => (bif nj_in (v3 + (1 : Int32)) L then (bif nj_in (v3 + (2 : Int32)) L then (bif nj_in (v3 + (3 : Int32)) L then ((mo_Md_put m (xs (nj_n (v3 + (1 : Int32)))) (xs (nj_n (v3 + (2 : Int32)))) (xs (nj_n (v3 + (3 : Int32))))).bind (fun w77 => (if (w72.1) = (w77.1) then (lo_Law xs L n (w72.2) (w77.2) (v3 + (6 : Int32))) else none))) else none) else none) else none))) else none) else none) else none) else (if ((xs (nj_n v3)) &&& (63 : Int32)) = (8 : Int32) then (bif nj_in (v3 + (1 : Int32)) L then ((mo_Nj_fault s (xs (nj_n (v3 + (1 : Int32))))).bind (fun w81 => (bif nj_in (v3 + (1 : Int32)) L then ((mo_Md_fault m (xs (nj_n (v3 + (1 : Int32))))).bind (fun w84 => (if (w81.1) = (w84.1) then (lo_Law xs L n (w81.2) (w84.2) (v3 + (6 : Int32))) else none))) else none))) else none) else (if ((xs (nj_n v3)) &&& (63 : Int32)) = (9 : Int32) then (bif nj_in (v3 + (1 : Int32)) L then ((mo_Nj_club s (xs (nj_n (v3 + (1 : Int32))))).bind (fun w88 => (bif nj_in (v3 + (1 : Int32)) L then ((mo_Md_club m (xs (nj_n (v3 + (1 : Int32))))).bind (fun w91 => (if (w88.1) = (w91.1) then (lo_Law xs L n (w88.2) (w91.2) (v3 + (6 : Int32))) else none))) else none))) else none) else (if ((xs (nj_n v3)) &&& (63 : Int32)) = (10 : Int32) then (bif nj_in (v3 + (1 : Int32)) L then (bif nj_in (v3 + (2 : Int32)) L then ((mo_Nj_child s (xs (nj_n (v3 + (1 : Int32)))) (xs (nj_n (v3 + (2 : Int32))))).bind (fun w96 => (bif nj_in (v3 + (1 : Int32)) L then (bif nj_in (v3 + (2 : Int32)) L then ((mo_Md_child m (xs (nj_n (v3 + (1 : Int32)))) (xs (nj_n (v3 + (2 : Int32))))).bind (fun w100 => (if (w96.1) = (w100.1) then (lo_Law xs L n (w96.2) (w100.2) (v3 + (6 : Int32))) else none))) else none) else none))) else none) else none) else (if ((xs (nj_n v3)) &&& (63 : Int32)) = (11 : Int32) then (bif nj_in (v3 + (1 : Int32)) L then (bif nj_in (v3 + (2 : Int32)) L then ((mo_Nj_mark s (xs (nj_n (v3 + (1 : Int32)))) (xs (nj_n (v3 + (2 : Int32))))).bind (fun w105 => (bif nj_in (v3 + (1 : Int32)) L then (bif nj_in (v3 + (2 : Int32)) L then ((mo_Md_mark m (xs (nj_n (v3 + (1 : Int32)))) (xs (nj_n (v3 + (2 : Int32))))).bind (fun w109 => (if (w105.1) = (w109.1) then (lo_Law xs L n (w105.2) (w109.2) (v3 + (6 : Int32))) else none))) else none) else none))) else none) else none) else (if ((xs (nj_n v3)) &&& (63 : Int32)) = (12 : Int32) then (bif nj_in (v3 + (1 : Int32)) L then ((mo_Nj_rule s (xs (nj_n (v3 + (1 : Int32))))).bind (fun w113 => (bif nj_in (v3 + (1 : Int32)) L then ((mo_Md_rule m (xs (nj_n (v3 + (1 : Int32))))).bind (fun w116 => (if (w113.1) = (w116.1) then (lo_Law xs L n (w113.2) (w116.2) (v3 + (6 : Int32))) else none))) else none))) else none) else (if ((xs (nj_n v3)) &&& (63 : Int32)) = (13 : Int32) then (bif nj_in (v3 + (1 : Int32)) L then ((mo_Nj_oust s (xs (nj_n (v3 + (1 : Int32))))).bind (fun w120 => (bif nj_in (v3 + (1 : Int32)) L then ((mo_Md_oust m (xs (nj_n (v3 + (1 : Int32))))).bind (fun w123 => (if (w120.1) = (w123.1) then (lo_Law xs L n (w120.2) (w123.2) (v3 + (6 : Int32))) else none))) else none))) else none) else (if ((xs (nj_n v3)) &&& (63 : Int32)) = (14 : Int32) then (bif nj_in (v3 + (1 : Int32)) L then ((mo_Nj_join s (xs (nj_n (v3 + (1 : Int32))))).bind (fun w127 => (bif nj_in (v3 + (1 : Int32)) L then ((mo_Md_join m (xs (nj_n (v3 + (1 : Int32))))).bind (fun w130 => (if (w127.1) = (w130.1) then (lo_Law xs L n (w127.2) (w130.2) (v3 + (6 : Int32))) else none))) else none))) else none) else (if ((xs (nj_n v3)) &&& (63 : Int32)) = (15 : Int32) then ((mo_Nj_fee s).bind (fun w133 => ((mo_Md_fee m).bind (fun w135 => (if (w133.1) = (w135.1) then (lo_Law xs L n (w133.2) (w135.2) (v3 + (6 : Int32))) else none))))) else (if ((xs (nj_n v3)) &&& (63 : Int32)) = (16 : Int32) then (bif nj_in (v3 + (1 : Int32)) L then (bif nj_in (v3 + (2 : Int32)) L then ((mo_Nj_grudge s (xs (nj_n (v3 + (1 : Int32)))) (xs (nj_n (v3 + (2 : Int32))))).bind (fun w140 => (bif nj_in (v3 + (1 : Int32)) L then (bif nj_in (v3 + (2 : Int32)) L then ((mo_Md_grudge m (xs (nj_n (v3 + (1 : Int32)))) (xs (nj_n (v3 + (2 : Int32))))).bind (fun w144 => (if (w140.1) = (w144.1) then (lo_Law xs L n (w140.2) (w144.2) (v3 + (6 : Int32))) else none))) else none) else none))) else none) else none) else (if ((xs (nj_n v3)) &&& (63 : Int32)) = (17 : Int32) then (bif nj_in (v3 + (1 : Int32)) L then ((mo_Nj_undo s (xs (nj_n (v3 + (1 : Int32))))).bind (fun w148 => (bif nj_in (v3 + (1 : Int32)) L then ((mo_Md_undo m (xs (nj_n (v3 + (1 : Int32))))).bind (fun w151 => (if (w148.1) = (w151.1) then (lo_Law xs L n (w148.2) (w151.2) (v3 + (6 : Int32))) else none))) else none))) else none) else (if ((xs (nj_n v3)) &&& (63 : Int32)) = (18 : Int32) then (bif nj_in (v3 + (1 : Int32)) L then ((mo_Nj_keep s (xs (nj_n (v3 + (1 : Int32))))).bind (fun w155 => (bif nj_in (v3 + (1 : Int32)) L then ((mo_Md_keep m (xs (nj_n (v3 + (1 : Int32))))).bind (fun w158 => (if (w155.1) = (w158.1) then (lo_Law xs L n (w155.2) (w158.2) (v3 + (6 : Int32))) else none))) else none))) else none) else (if ((xs (nj_n v3)) &&& (63 : Int32)) = (19 : Int32) then (bif nj_in (v3 + (1 : Int32)) L then ((mo_Nj_on s (xs (nj_n (v3 + (1 : Int32))))).bind (fun w162 => (bif nj_in (v3 + (1 : Int32)) L then ((mo_Md_on m (xs (nj_n (v3 + (1 : Int32))))).bind (fun w165 => (if (w162.1) = (w165.1) then (lo_Law xs L n (w162.2) (w165.2) (v3 + (6 : Int32))) else none))) else none))) else none) else (if ((xs (nj_n v3)) &&& (63 : Int32)) = (20 : Int32) then (bif nj_in (v3 + (1 : Int32)) L then ((mo_Nj_yes s (xs (nj_n (v3 + (1 : Int32))))).bind (fun w169 => (bif nj_in (v3 + (1 : Int32)) L then ((mo_Md_yes m (xs (nj_n (v3 + (1 : Int32))))).bind (fun w172 => (if (w169.1) = (w172.1) then (lo_Law xs L n (w169.2) (w172.2) (v3 + (6 : Int32))) else none))) else none))) else none) else (if ((xs (nj_n v3)) &&& (63 : Int32)) = (21 : Int32) then ((mo_Nj_can s).bind (fun w175 => ((mo_Md_can m).bind (fun w177 => (if (w175.1) = (w177.1) then (lo_Law xs L n (w175.2) (w177.2) (v3 + (6 : Int32))) else none))))) else (if ((xs (nj_n v3)) &&& (63 : Int32)) = (22 : Int32) then (bif nj_in (v3 + (1 : Int32)) L then ((mo_Nj_swing s (xs (nj_n (v3 + (1 : Int32))))).bind (fun w181 => (bif nj_in (v3 + (1 : Int32)) L then ((mo_Md_swing m (xs (nj_n (v3 + (1 : Int32))))).bind (fun w184 => (if w181 = (w184.1) then (lo_Law xs L n s (w184.2) (v3 + (6 : Int32))) else none))) else none))) else none) else (if ((xs (nj_n v3)) &&& (63 : Int32)) = (23 : Int32) then (bif nj_in (v3 + (1 : Int32)) L then ((mo_Nj_rules s (xs (nj_n (v3 + (1 : Int32))))).bind (fun w188 => (bif nj_in (v3 + (1 : Int32)) L then ((mo_Md_rules m (xs (nj_n (v3 + (1 : Int32))))).bind (fun w191 => (if w188 = w191 then (lo_Law xs L n s m (v3 + (6 : Int32))) else none))) else none))) else none) else (if ((xs (nj_n v3)) &&& (63 : Int32)) = (24 : Int32) then (bif nj_in (v3 + (1 : Int32)) L then ((mo_Nj_longest s (xs (nj_n (v3 + (1 : Int32))))).bind (fun w195 => (bif nj_in (v3 + (1 : Int32)) L then ((mo_Md_longest m (xs (nj_n (v3 + (1 : Int32))))).bind (fun w198 => (if (w195.1) = (w198.1) then (lo_Law xs L n (w195.2) (w198.2) (v3 + (6 : Int32))) else none))) else none))) else none) else (if ((xs (nj_n v3)) &&& (63 : Int32)) = (25 : Int32) then (bif nj_in (v3 + (1 : Int32)) L then ((mo_Nj_ways s (xs (nj_n (v3 + (1 : Int32))))).bind (fun w202 => (bif nj_in (v3 + (1 : Int32)) L then ((mo_Md_ways m (xs (nj_n (v3 + (1 : Int32))))).bind (fun w205 => (if (w202.1) = (w205.1) then (lo_Law xs L n (w202.2) (w205.2) (v3 + (6 : Int32))) else none))) else none))) else none) else (if ((xs (nj_n v3)) &&& (63 : Int32)) = (26 : Int32) then ((mo_Nj_alone s).bind (fun w208 => ((mo_Md_alone m).bind (fun w210 => (if (w208.1) = (w210.1) then (lo_Law xs L n (w208.2) (w210.2) (v3 + (6 : Int32))) else none))))) else (if ((xs (nj_n v3)) &&& (63 : Int32)) = (27 : Int32) then ((mo_Nj_stands s).bind (fun w213 => ((mo_Md_stands m).bind (fun w215 => (if (w213.1) = (w215.1) then (lo_Law xs L n (w213.2) (w215.2) (v3 + (6 : Int32))) else none))))) else (if ((xs (nj_n v3)) &&& (63 : Int32)) = (28 : Int32) then (bif nj_in (v3 + (1 : Int32)) L then ((mo_Nj_run s (xs (nj_n (v3 + (1 : Int32))))).bind (fun w219 => (bif nj_in (v3 + (1 : Int32)) L then ((mo_Md_run m (xs (nj_n (v3 + (1 : Int32))))).bind (fun w222 => (if (w219.1) = (w222.1) then (lo_Law xs L n (w219.2) (w222.2) (v3 + (6 : Int32))) else none))) else none))) else none) else (if ((xs (nj_n v3)) &&& (63 : Int32)) = (29 : Int32) then ((mo_Nj_splits s).bind (fun w225 => ((mo_Md_splits m).bind (fun w227 => (if (w225.1) = (w227.1) then (lo_Law xs L n (w225.2) (w227.2) (v3 + (6 : Int32))) else none))))) else (if ((xs (nj_n v3)) &&& (63 : Int32)) = (30 : Int32) then ((mo_Nj_peace s).bind (fun w230 => ((mo_Md_peace m).bind (fun w232 => (if (w230.1) = (w232.1) then (lo_Law xs L n (w230.2) (w232.2) (v3 + (6 : Int32))) else none))))) else (if ((xs (nj_n v3)) &&& (63 : Int32)) = (31 : Int32) then (bif nj_in (v3 + (1 : Int32)) L then ((mo_Nj_power s (xs (nj_n (v3 + (1 : Int32))))).bind (fun w236 => (bif nj_in (v3 + (1 : Int32)) L then ((mo_Md_power m (xs (nj_n (v3 + (1 : Int32))))).bind (fun w239 => (if (w236.1) = (w239.1) then (lo_Law xs L n (w236.2) (w239.2) (v3 + (6 : Int32))) else none))) else none))) else none) else (if ((xs (nj_n v3)) &&& (63 : Int32)) = (32 : Int32) then (bif nj_in (v3 + (1 : Int32)) L then ((mo_Nj_share s (xs (nj_n (v3 + (1 : Int32))))).bind (fun w243 => (bif nj_in (v3 + (1 : Int32)) L then ((mo_Md_share m (xs (nj_n (v3 + (1 : Int32))))).bind (fun w246 => (if (w243.1) = (w246.1) then (lo_Law xs L n (w243.2) (w246.2) (v3 + (6 : Int32))) else none))) else none))) else none) else (if ((xs (nj_n v3)) &&& (63 : Int32)) = (33 : Int32) then ((mo_Nj_secrets s).bind (fun w249 => ((mo_Md_secrets m).bind (fun w251 => (if w249 = w251 then (lo_Law xs L n s m (v3 + (6 : Int32))) else none))))) else (if ((xs (nj_n v3)) &&& (63 : Int32)) = (34 : Int32) then (bif nj_in (v3 + (1 : Int32)) L then ((mo_Nj_told s (xs (nj_n (v3 + (1 : Int32))))).bind (fun w255 => (bif nj_in (v3 + (1 : Int32)) L then ((mo_Md_told m (xs (nj_n (v3 + (1 : Int32))))).bind (fun w258 => (if (w255.1) = (w258.1) then (lo_Law xs L n (w255.2) (w258.2) (v3 + (6 : Int32))) else none))) else none))) else none) else (if ((xs (nj_n v3)) &&& (63 : Int32)) = (35 : Int32) then (bif nj_in (v3 + (1 : Int32)) L then ((mo_Nj_minutes s (xs (nj_n (v3 + (1 : Int32))))).bind (fun w262 => (bif nj_in (v3 + (1 : Int32)) L then ((mo_Md_minutes m (xs (nj_n (v3 + (1 : Int32))))).bind (fun w265 => (if (w262.1) = (w265.1) then (lo_Law xs L n (w262.2) (w265.2) (v3 + (6 : Int32))) else none))) else none))) else none) else (if ((xs (nj_n v3)) &&& (63 : Int32)) = (36 : Int32) then (bif nj_in (v3 + (1 : Int32)) L then ((mo_Nj_odds s (xs (nj_n (v3 + (1 : Int32))))).bind (fun w269 => (bif nj_in (v3 + (1 : Int32)) L then ((mo_Md_odds m (xs (nj_n (v3 + (1 : Int32))))).bind (fun w272 => (if (w269.1) = (w272.1) then (lo_Law xs L n (w269.2) (w272.2) (v3 + (6 : Int32))) else none))) else none))) else none) else (if ((xs (nj_n v3)) &&& (63 : Int32)) = (37 : Int32) then (bif nj_in (v3 + (1 : Int32)) L then (bif nj_in (v3 + (2 : Int32)) L then ((mo_Nj_lots s (xs (nj_n (v3 + (1 : Int32)))) (xs (nj_n (v3 + (2 : Int32))))).bind (fun w277 => (bif nj_in (v3 + (1 : Int32)) L then (bif nj_in (v3 + (2 : Int32)) L then ((mo_Md_lots m (xs (nj_n (v3 + (1 : Int32)))) (xs (nj_n (v3 + (2 : Int32))))).bind (fun w281 => (if (w277.1) = (w281.1) then (lo_Law xs L n (w277.2) (w281.2) (v3 + (6 : Int32))) else none))) else none) else none))) else none) else none) else (if ((xs (nj_n v3)) &&& (63 : Int32)) = (38 : Int32) then ((mo_Nj_asked s).bind (fun w284 => ((mo_Md_asked m).bind (fun w286 => (if w284 = w286 then (lo_Law xs L n s m (v3 + (6 : Int32))) else none))))) else (if ((xs (nj_n v3)) &&& (63 : Int32)) = (39 : Int32) then ((mo_Nj_upper s).bind (fun w289 => ((mo_Md_upper m).bind (fun w291 => (if w289 = w291 then (lo_Law xs L n s m (v3 + (6 : Int32))) else none))))) else (if ((xs (nj_n v3)) &&& (63 : Int32)) = (40 : Int32) then ((mo_Nj_lower s).bind (fun w294 => ((mo_Md_lower m).bind (fun w296 => (if w294 = w296 then (lo_Law xs L n s m (v3 + (6 : Int32))) else none))))) else (if ((xs (nj_n v3)) &&& (63 : Int32)) = (41 : Int32) then (bif nj_in (v3 + (1 : Int32)) L then ((mo_Nj_count s (xs (nj_n (v3 + (1 : Int32))))).bind (fun w300 => (bif nj_in (v3 + (1 : Int32)) L then ((mo_Md_count m (xs (nj_n (v3 + (1 : Int32))))).bind (fun w303 => (if w300 = w303 then (lo_Law xs L n s m (v3 + (6 : Int32))) else none))) else none))) else none) else (if ((xs (nj_n v3)) &&& (63 : Int32)) = (42 : Int32) then ((mo_Nj_finding s).bind (fun w306 => ((mo_Md_finding m).bind (fun w308 => (if w306 = w308 then (lo_Law xs L n s m (v3 + (6 : Int32))) else none))))) else (if ((xs (nj_n v3)) &&& (63 : Int32)) = (43 : Int32) then (bif nj_in (v3 + (1 : Int32)) L then ((mo_Nj_findings s (xs (nj_n (v3 + (1 : Int32))))).bind (fun w312 => (bif nj_in (v3 + (1 : Int32)) L then ((mo_Md_findings m (xs (nj_n (v3 + (1 : Int32))))).bind (fun w315 => (if w312 = w315 then (lo_Law xs L n s m (v3 + (6 : Int32))) else none))) else none))) else none) else (if ((xs (nj_n v3)) &&& (63 : Int32)) = (44 : Int32) then ((mo_Nj_digest s).bind (fun w318 => ((mo_Md_digest m).bind (fun w320 => (if w318 = w320 then (lo_Law xs L n s m (v3 + (6 : Int32))) else none))))) else (lo_Law xs L n s m (v3 + (6 : Int32)))))))))))))))))))))))))))))))))))))))))))))))) else none))
set_option maxHeartbeats 4000000 in
theorem lw_Law {G : nj_G} {ad : Nat → Nat} {kc ks b L : Nat} {xs : Nat → Int32} (C : nj_C G code 4 "NobodyJoinsLaw" room_1) (hW : nj_Lw G ad b L xs) (hkc : kc ≤ room_1.cells) (hks : ks ≤ room_1.slots) : ∀ (n : Nat) (s : NjS) (m : MdS) (v3 : Int32) (x : Unit), lo_Law xs L n s m v3 = some x → nj_V G ad kc ks 18 [some (.ref 2000), some (.ref 0), some (.ref 53), some (.int v3)] [] (rp_Law s m) := by
  intro n
  induction n with
  | zero => intro s m v3 x h; rw [lo_Law] at h; cases h
  | succ n ih =>
    intro s m v3 x h
    rw [lo_Law] at h
    refine vr_il C nd_Law_18 rfl ?_
    refine vr_al C nd_Law_19 rfl ?_
    refine vr_slen C hW nd_Law_20 rfl ?_
    refine vr_ic C nd_Law_21 ?_
    refine vr_isub C nd_Law_23 rfl ?_
    refine vr_cm_gt C nd_Law_24 (fun hc => ?_) (fun hc => ?_)
    · have h := no_t hc h
      refine vr_ic C nd_Law_1302 ?_
      exact vr_lawret C hW hkc hks nd_Law_1303 rfl
    · have h := no_f hc h
      refine vr_al C nd_Law_27 rfl ?_
      refine vr_il C nd_Law_28 rfl ?_
      obtain ⟨hN1, h⟩ := no_i h
      refine vr_script C hW nd_Law_29 rfl hN1 ?_
      refine vr_ic C nd_Law_30 ?_
      refine vr_iand C nd_Law_32 rfl ?_
      by_cases hS10 : ((xs (nj_n v3)) &&& (63 : Int32)) = (0 : Int32)
      · have h := no_t hS10 h
        refine vr_tsI (0 : Int32) C nd_Law_33 hS10 (by decide) (by decide) rfl rfl ?_
        refine vr_al C nd_Law_228 rfl ?_
        refine vr_al C nd_Law_229 rfl ?_
        refine vr_il C nd_Law_230 rfl ?_
        refine vr_ic C nd_Law_231 ?_
        refine vr_iadd C nd_Law_232 rfl ?_
        obtain ⟨hN2, h⟩ := no_i h
        refine vr_script C hW nd_Law_233 rfl hN2 ?_
        refine vr_al C nd_Law_234 rfl ?_
        refine vr_il C nd_Law_235 rfl ?_
        refine vr_ic C nd_Law_236 ?_
        refine vr_iadd C nd_Law_237 rfl ?_
        obtain ⟨hN3, h⟩ := no_i h
        refine vr_script C hW nd_Law_238 rfl hN3 ?_
        obtain ⟨w4, hV5, h⟩ := no_b h
        refine vr_cVi (hp' := (rp_Law (w4.2) m)) nj_isX [.int (xs (nj_n (v3 + (1 : Int32)))), .int (xs (nj_n (v3 + (2 : Int32))))] [] C nd_Law_239 rfl ml_Law_13 my_Nj_row (co_Nj_row s (xs (nj_n (v3 + (1 : Int32)))) (xs (nj_n (v3 + (2 : Int32)))) w4 hV5) (em_Law_Nj s m) ⟨_, _, _, rfl, rfl, rfl⟩ rfl rfl nj_ro_Nj_row hkc hks rfl (pa_Law_Nj s m (w4.2)) ?_
        refine vr_al C nd_Law_242 rfl ?_
        refine vr_al C nd_Law_243 rfl ?_
        refine vr_il C nd_Law_244 rfl ?_
        refine vr_ic C nd_Law_245 ?_
        refine vr_iadd C nd_Law_246 rfl ?_
        obtain ⟨hN6, h⟩ := no_i h
        refine vr_script C hW nd_Law_247 rfl hN6 ?_
        refine vr_al C nd_Law_248 rfl ?_
        refine vr_il C nd_Law_249 rfl ?_
        refine vr_ic C nd_Law_250 ?_
        refine vr_iadd C nd_Law_251 rfl ?_
        obtain ⟨hN7, h⟩ := no_i h
        refine vr_script C hW nd_Law_252 rfl hN7 ?_
        obtain ⟨w8, hV9, h⟩ := no_b h
        refine vr_cVi (hp' := (rp_Law (w4.2) (w8.2))) nj_isM [.int (xs (nj_n (v3 + (1 : Int32)))), .int (xs (nj_n (v3 + (2 : Int32))))] [.int (w4.1)] C nd_Law_253 rfl ml_Law_17 my_Md_row (co_Md_row m (xs (nj_n (v3 + (1 : Int32)))) (xs (nj_n (v3 + (2 : Int32)))) w8 hV9) (em_Law_Md (w4.2) m) ⟨_, _, _, rfl, rfl, rfl⟩ rfl rfl nj_ro_Md_row hkc hks rfl (pa_Law_Md (w4.2) m (w8.2)) ?_
        refine vr_cm_eq C nd_Law_256 (fun hc => ?_) (fun hc => ?_)
        · have h := no_t hc h
          refine vr_inc (v := (v3 + (6 : Int32))) (ls' := [some (.ref 2000), some (.ref 0), some (.ref 53), some (.int (v3 + (6 : Int32)))]) C nd_Law_1296 rfl rfl rfl rfl rfl ?_
          refine vr_go C nd_Law_1299 ?_
          exact ih _ _ _ _ h
        · have h := no_f hc h
          refine vr_ic C nd_Law_259 ?_
          cases h
      have h := no_f hS10 h
      by_cases hS21 : ((xs (nj_n v3)) &&& (63 : Int32)) = (1 : Int32)
      · have h := no_t hS21 h
        refine vr_tsI (1 : Int32) C nd_Law_33 hS21 (by decide) (by decide) rfl rfl ?_
        refine vr_al C nd_Law_261 rfl ?_
        refine vr_al C nd_Law_262 rfl ?_
        refine vr_il C nd_Law_263 rfl ?_
        refine vr_ic C nd_Law_264 ?_
        refine vr_iadd C nd_Law_265 rfl ?_
        obtain ⟨hN11, h⟩ := no_i h
        refine vr_script C hW nd_Law_266 rfl hN11 ?_
        refine vr_al C nd_Law_267 rfl ?_
        refine vr_il C nd_Law_268 rfl ?_
        refine vr_ic C nd_Law_269 ?_
        refine vr_iadd C nd_Law_270 rfl ?_
        obtain ⟨hN12, h⟩ := no_i h
        refine vr_script C hW nd_Law_271 rfl hN12 ?_
        refine vr_al C nd_Law_272 rfl ?_
        refine vr_il C nd_Law_273 rfl ?_
        refine vr_ic C nd_Law_274 ?_
        refine vr_iadd C nd_Law_275 rfl ?_
        obtain ⟨hN13, h⟩ := no_i h
        refine vr_script C hW nd_Law_276 rfl hN13 ?_
        obtain ⟨w14, hV15, h⟩ := no_b h
        refine vr_cVi (hp' := (rp_Law (w14.2) m)) nj_isX [.int (xs (nj_n (v3 + (1 : Int32)))), .int (xs (nj_n (v3 + (2 : Int32)))), .int (xs (nj_n (v3 + (3 : Int32))))] [] C nd_Law_277 rfl ml_Law_18 my_Nj_lay (co_Nj_lay s (xs (nj_n (v3 + (1 : Int32)))) (xs (nj_n (v3 + (2 : Int32)))) (xs (nj_n (v3 + (3 : Int32)))) w14 hV15) (em_Law_Nj s m) ⟨_, _, _, rfl, rfl, rfl⟩ rfl rfl nj_ro_Nj_lay hkc hks rfl (pa_Law_Nj s m (w14.2)) ?_
        refine vr_al C nd_Law_280 rfl ?_
        refine vr_al C nd_Law_281 rfl ?_
        refine vr_il C nd_Law_282 rfl ?_
        refine vr_ic C nd_Law_283 ?_
        refine vr_iadd C nd_Law_284 rfl ?_
        obtain ⟨hN16, h⟩ := no_i h
        refine vr_script C hW nd_Law_285 rfl hN16 ?_
        refine vr_al C nd_Law_286 rfl ?_
        refine vr_il C nd_Law_287 rfl ?_
        refine vr_ic C nd_Law_288 ?_
        refine vr_iadd C nd_Law_289 rfl ?_
        obtain ⟨hN17, h⟩ := no_i h
        refine vr_script C hW nd_Law_290 rfl hN17 ?_
        refine vr_al C nd_Law_291 rfl ?_
        refine vr_il C nd_Law_292 rfl ?_
        refine vr_ic C nd_Law_293 ?_
        refine vr_iadd C nd_Law_294 rfl ?_
        obtain ⟨hN18, h⟩ := no_i h
        refine vr_script C hW nd_Law_295 rfl hN18 ?_
        obtain ⟨w19, hV20, h⟩ := no_b h
        refine vr_cVi (hp' := (rp_Law (w14.2) (w19.2))) nj_isM [.int (xs (nj_n (v3 + (1 : Int32)))), .int (xs (nj_n (v3 + (2 : Int32)))), .int (xs (nj_n (v3 + (3 : Int32))))] [.int (w14.1)] C nd_Law_296 rfl ml_Law_22 my_Md_lay (co_Md_lay m (xs (nj_n (v3 + (1 : Int32)))) (xs (nj_n (v3 + (2 : Int32)))) (xs (nj_n (v3 + (3 : Int32)))) w19 hV20) (em_Law_Md (w14.2) m) ⟨_, _, _, rfl, rfl, rfl⟩ rfl rfl nj_ro_Md_lay hkc hks rfl (pa_Law_Md (w14.2) m (w19.2)) ?_
        refine vr_cm_eq C nd_Law_299 (fun hc => ?_) (fun hc => ?_)
        · have h := no_t hc h
          refine vr_inc (v := (v3 + (6 : Int32))) (ls' := [some (.ref 2000), some (.ref 0), some (.ref 53), some (.int (v3 + (6 : Int32)))]) C nd_Law_1296 rfl rfl rfl rfl rfl ?_
          refine vr_go C nd_Law_1299 ?_
          exact ih _ _ _ _ h
        · have h := no_f hc h
          refine vr_ic C nd_Law_302 ?_
          cases h
      have h := no_f hS21 h
      by_cases hS30 : ((xs (nj_n v3)) &&& (63 : Int32)) = (2 : Int32)
      · have h := no_t hS30 h
        refine vr_tsI (2 : Int32) C nd_Law_33 hS30 (by decide) (by decide) rfl rfl ?_
        refine vr_al C nd_Law_304 rfl ?_
        refine vr_al C nd_Law_305 rfl ?_
        refine vr_il C nd_Law_306 rfl ?_
        refine vr_ic C nd_Law_307 ?_
        refine vr_iadd C nd_Law_308 rfl ?_
        obtain ⟨hN22, h⟩ := no_i h
        refine vr_script C hW nd_Law_309 rfl hN22 ?_
        refine vr_al C nd_Law_310 rfl ?_
        refine vr_il C nd_Law_311 rfl ?_
        refine vr_ic C nd_Law_312 ?_
        refine vr_iadd C nd_Law_313 rfl ?_
        obtain ⟨hN23, h⟩ := no_i h
        refine vr_script C hW nd_Law_314 rfl hN23 ?_
        obtain ⟨w24, hV25, h⟩ := no_b h
        refine vr_cVi (hp' := (rp_Law (w24.2) m)) nj_isX [.int (xs (nj_n (v3 + (1 : Int32)))), .int (xs (nj_n (v3 + (2 : Int32))))] [] C nd_Law_315 rfl ml_Law_23 my_Nj_at (co_Nj_at s (xs (nj_n (v3 + (1 : Int32)))) (xs (nj_n (v3 + (2 : Int32)))) w24 hV25) (em_Law_Nj s m) ⟨_, _, _, rfl, rfl, rfl⟩ rfl rfl nj_ro_Nj_at hkc hks rfl (pa_Law_Nj s m (w24.2)) ?_
        refine vr_al C nd_Law_318 rfl ?_
        refine vr_al C nd_Law_319 rfl ?_
        refine vr_il C nd_Law_320 rfl ?_
        refine vr_ic C nd_Law_321 ?_
        refine vr_iadd C nd_Law_322 rfl ?_
        obtain ⟨hN26, h⟩ := no_i h
        refine vr_script C hW nd_Law_323 rfl hN26 ?_
        refine vr_al C nd_Law_324 rfl ?_
        refine vr_il C nd_Law_325 rfl ?_
        refine vr_ic C nd_Law_326 ?_
        refine vr_iadd C nd_Law_327 rfl ?_
        obtain ⟨hN27, h⟩ := no_i h
        refine vr_script C hW nd_Law_328 rfl hN27 ?_
        obtain ⟨w28, hV29, h⟩ := no_b h
        refine vr_cVi (hp' := (rp_Law (w24.2) (w28.2))) nj_isM [.int (xs (nj_n (v3 + (1 : Int32)))), .int (xs (nj_n (v3 + (2 : Int32))))] [.int (w24.1)] C nd_Law_329 rfl ml_Law_26 my_Md_at (co_Md_at m (xs (nj_n (v3 + (1 : Int32)))) (xs (nj_n (v3 + (2 : Int32)))) w28 hV29) (em_Law_Md (w24.2) m) ⟨_, _, _, rfl, rfl, rfl⟩ rfl rfl nj_ro_Md_at hkc hks rfl (pa_Law_Md (w24.2) m (w28.2)) ?_
        refine vr_cm_eq C nd_Law_332 (fun hc => ?_) (fun hc => ?_)
        · have h := no_t hc h
          refine vr_inc (v := (v3 + (6 : Int32))) (ls' := [some (.ref 2000), some (.ref 0), some (.ref 53), some (.int (v3 + (6 : Int32)))]) C nd_Law_1296 rfl rfl rfl rfl rfl ?_
          refine vr_go C nd_Law_1299 ?_
          exact ih _ _ _ _ h
        · have h := no_f hc h
          refine vr_ic C nd_Law_335 ?_
          cases h
      have h := no_f hS30 h
      by_cases hS37 : ((xs (nj_n v3)) &&& (63 : Int32)) = (3 : Int32)
      · have h := no_t hS37 h
        refine vr_tsI (3 : Int32) C nd_Law_33 hS37 (by decide) (by decide) rfl rfl ?_
        refine vr_al C nd_Law_337 rfl ?_
        refine vr_al C nd_Law_338 rfl ?_
        refine vr_il C nd_Law_339 rfl ?_
        refine vr_ic C nd_Law_340 ?_
        refine vr_iadd C nd_Law_341 rfl ?_
        obtain ⟨hN31, h⟩ := no_i h
        refine vr_script C hW nd_Law_342 rfl hN31 ?_
        obtain ⟨w32, hV33, h⟩ := no_b h
        refine vr_cVi (hp' := (rp_Law (w32.2) m)) nj_isX [.int (xs (nj_n (v3 + (1 : Int32))))] [] C nd_Law_343 rfl ml_Law_27 my_Nj_tear (co_Nj_tear s (xs (nj_n (v3 + (1 : Int32)))) w32 hV33) (em_Law_Nj s m) ⟨_, _, _, rfl, rfl, rfl⟩ rfl rfl nj_ro_Nj_tear hkc hks rfl (pa_Law_Nj s m (w32.2)) ?_
        refine vr_al C nd_Law_346 rfl ?_
        refine vr_al C nd_Law_347 rfl ?_
        refine vr_il C nd_Law_348 rfl ?_
        refine vr_ic C nd_Law_349 ?_
        refine vr_iadd C nd_Law_350 rfl ?_
        obtain ⟨hN34, h⟩ := no_i h
        refine vr_script C hW nd_Law_351 rfl hN34 ?_
        obtain ⟨w35, hV36, h⟩ := no_b h
        refine vr_cVi (hp' := (rp_Law (w32.2) (w35.2))) nj_isM [.int (xs (nj_n (v3 + (1 : Int32))))] [.int (w32.1)] C nd_Law_352 rfl ml_Law_31 my_Md_tear (co_Md_tear m (xs (nj_n (v3 + (1 : Int32)))) w35 hV36) (em_Law_Md (w32.2) m) ⟨_, _, _, rfl, rfl, rfl⟩ rfl rfl nj_ro_Md_tear hkc hks rfl (pa_Law_Md (w32.2) m (w35.2)) ?_
        refine vr_cm_eq C nd_Law_355 (fun hc => ?_) (fun hc => ?_)
        · have h := no_t hc h
          refine vr_inc (v := (v3 + (6 : Int32))) (ls' := [some (.ref 2000), some (.ref 0), some (.ref 53), some (.int (v3 + (6 : Int32)))]) C nd_Law_1296 rfl rfl rfl rfl rfl ?_
          refine vr_go C nd_Law_1299 ?_
          exact ih _ _ _ _ h
        · have h := no_f hc h
          refine vr_ic C nd_Law_358 ?_
          cases h
      have h := no_f hS37 h
      by_cases hS52 : ((xs (nj_n v3)) &&& (63 : Int32)) = (4 : Int32)
      · have h := no_t hS52 h
        refine vr_tsI (4 : Int32) C nd_Law_33 hS52 (by decide) (by decide) rfl rfl ?_
        refine vr_al C nd_Law_360 rfl ?_
        refine vr_al C nd_Law_361 rfl ?_
        refine vr_il C nd_Law_362 rfl ?_
        refine vr_ic C nd_Law_363 ?_
        refine vr_iadd C nd_Law_364 rfl ?_
        obtain ⟨hN38, h⟩ := no_i h
        refine vr_script C hW nd_Law_365 rfl hN38 ?_
        refine vr_al C nd_Law_366 rfl ?_
        refine vr_il C nd_Law_367 rfl ?_
        refine vr_ic C nd_Law_368 ?_
        refine vr_iadd C nd_Law_369 rfl ?_
        obtain ⟨hN39, h⟩ := no_i h
        refine vr_script C hW nd_Law_370 rfl hN39 ?_
        refine vr_al C nd_Law_371 rfl ?_
        refine vr_il C nd_Law_372 rfl ?_
        refine vr_ic C nd_Law_373 ?_
        refine vr_iadd C nd_Law_374 rfl ?_
        obtain ⟨hN40, h⟩ := no_i h
        refine vr_script C hW nd_Law_375 rfl hN40 ?_
        refine vr_al C nd_Law_376 rfl ?_
        refine vr_il C nd_Law_377 rfl ?_
        refine vr_ic C nd_Law_378 ?_
        refine vr_iadd C nd_Law_379 rfl ?_
        obtain ⟨hN41, h⟩ := no_i h
        refine vr_script C hW nd_Law_380 rfl hN41 ?_
        refine vr_al C nd_Law_381 rfl ?_
        refine vr_il C nd_Law_382 rfl ?_
        refine vr_ic C nd_Law_383 ?_
        refine vr_iadd C nd_Law_384 rfl ?_
        obtain ⟨hN42, h⟩ := no_i h
        refine vr_script C hW nd_Law_385 rfl hN42 ?_
        obtain ⟨w43, hV44, h⟩ := no_b h
        refine vr_cVi (hp' := (rp_Law (w43.2) m)) nj_isX [.int (xs (nj_n (v3 + (1 : Int32)))), .int (xs (nj_n (v3 + (2 : Int32)))), .int (xs (nj_n (v3 + (3 : Int32)))), .int (xs (nj_n (v3 + (4 : Int32)))), .int (xs (nj_n (v3 + (5 : Int32))))] [] C nd_Law_386 rfl ml_Law_32 my_Nj_copy (co_Nj_copy s (xs (nj_n (v3 + (1 : Int32)))) (xs (nj_n (v3 + (2 : Int32)))) (xs (nj_n (v3 + (3 : Int32)))) (xs (nj_n (v3 + (4 : Int32)))) (xs (nj_n (v3 + (5 : Int32)))) w43 hV44) (em_Law_Nj s m) ⟨_, _, _, rfl, rfl, rfl⟩ rfl rfl nj_ro_Nj_copy hkc hks rfl (pa_Law_Nj s m (w43.2)) ?_
        refine vr_al C nd_Law_389 rfl ?_
        refine vr_al C nd_Law_390 rfl ?_
        refine vr_il C nd_Law_391 rfl ?_
        refine vr_ic C nd_Law_392 ?_
        refine vr_iadd C nd_Law_393 rfl ?_
        obtain ⟨hN45, h⟩ := no_i h
        refine vr_script C hW nd_Law_394 rfl hN45 ?_
        refine vr_al C nd_Law_395 rfl ?_
        refine vr_il C nd_Law_396 rfl ?_
        refine vr_ic C nd_Law_397 ?_
        refine vr_iadd C nd_Law_398 rfl ?_
        obtain ⟨hN46, h⟩ := no_i h
        refine vr_script C hW nd_Law_399 rfl hN46 ?_
        refine vr_al C nd_Law_400 rfl ?_
        refine vr_il C nd_Law_401 rfl ?_
        refine vr_ic C nd_Law_402 ?_
        refine vr_iadd C nd_Law_403 rfl ?_
        obtain ⟨hN47, h⟩ := no_i h
        refine vr_script C hW nd_Law_404 rfl hN47 ?_
        refine vr_al C nd_Law_405 rfl ?_
        refine vr_il C nd_Law_406 rfl ?_
        refine vr_ic C nd_Law_407 ?_
        refine vr_iadd C nd_Law_408 rfl ?_
        obtain ⟨hN48, h⟩ := no_i h
        refine vr_script C hW nd_Law_409 rfl hN48 ?_
        refine vr_al C nd_Law_410 rfl ?_
        refine vr_il C nd_Law_411 rfl ?_
        refine vr_ic C nd_Law_412 ?_
        refine vr_iadd C nd_Law_413 rfl ?_
        obtain ⟨hN49, h⟩ := no_i h
        refine vr_script C hW nd_Law_414 rfl hN49 ?_
        obtain ⟨w50, hV51, h⟩ := no_b h
        refine vr_cVi (hp' := (rp_Law (w43.2) (w50.2))) nj_isM [.int (xs (nj_n (v3 + (1 : Int32)))), .int (xs (nj_n (v3 + (2 : Int32)))), .int (xs (nj_n (v3 + (3 : Int32)))), .int (xs (nj_n (v3 + (4 : Int32)))), .int (xs (nj_n (v3 + (5 : Int32))))] [.int (w43.1)] C nd_Law_415 rfl ml_Law_36 my_Md_copy (co_Md_copy m (xs (nj_n (v3 + (1 : Int32)))) (xs (nj_n (v3 + (2 : Int32)))) (xs (nj_n (v3 + (3 : Int32)))) (xs (nj_n (v3 + (4 : Int32)))) (xs (nj_n (v3 + (5 : Int32)))) w50 hV51) (em_Law_Md (w43.2) m) ⟨_, _, _, rfl, rfl, rfl⟩ rfl rfl nj_ro_Md_copy hkc hks rfl (pa_Law_Md (w43.2) m (w50.2)) ?_
        refine vr_cm_eq C nd_Law_418 (fun hc => ?_) (fun hc => ?_)
        · have h := no_t hc h
          refine vr_inc (v := (v3 + (6 : Int32))) (ls' := [some (.ref 2000), some (.ref 0), some (.ref 53), some (.int (v3 + (6 : Int32)))]) C nd_Law_1296 rfl rfl rfl rfl rfl ?_
          refine vr_go C nd_Law_1299 ?_
          exact ih _ _ _ _ h
        · have h := no_f hc h
          refine vr_ic C nd_Law_421 ?_
          cases h
      have h := no_f hS52 h
      by_cases hS59 : ((xs (nj_n v3)) &&& (63 : Int32)) = (5 : Int32)
      · have h := no_t hS59 h
        refine vr_tsI (5 : Int32) C nd_Law_33 hS59 (by decide) (by decide) rfl rfl ?_
        refine vr_al C nd_Law_423 rfl ?_
        refine vr_al C nd_Law_424 rfl ?_
        refine vr_il C nd_Law_425 rfl ?_
        refine vr_ic C nd_Law_426 ?_
        refine vr_iadd C nd_Law_427 rfl ?_
        obtain ⟨hN53, h⟩ := no_i h
        refine vr_script C hW nd_Law_428 rfl hN53 ?_
        obtain ⟨w54, hV55, h⟩ := no_b h
        refine vr_cVi (hp' := (rp_Law (w54.2) m)) nj_isX [.int (xs (nj_n (v3 + (1 : Int32))))] [] C nd_Law_429 rfl ml_Law_37 my_Nj_mean (co_Nj_mean s (xs (nj_n (v3 + (1 : Int32)))) w54 hV55) (em_Law_Nj s m) ⟨_, _, _, rfl, rfl, rfl⟩ rfl rfl nj_ro_Nj_mean hkc hks rfl (pa_Law_Nj s m (w54.2)) ?_
        refine vr_al C nd_Law_432 rfl ?_
        refine vr_al C nd_Law_433 rfl ?_
        refine vr_il C nd_Law_434 rfl ?_
        refine vr_ic C nd_Law_435 ?_
        refine vr_iadd C nd_Law_436 rfl ?_
        obtain ⟨hN56, h⟩ := no_i h
        refine vr_script C hW nd_Law_437 rfl hN56 ?_
        obtain ⟨w57, hV58, h⟩ := no_b h
        refine vr_cVi (hp' := (rp_Law (w54.2) (w57.2))) nj_isM [.int (xs (nj_n (v3 + (1 : Int32))))] [.int (w54.1)] C nd_Law_438 rfl ml_Law_40 my_Md_mean (co_Md_mean m (xs (nj_n (v3 + (1 : Int32)))) w57 hV58) (em_Law_Md (w54.2) m) ⟨_, _, _, rfl, rfl, rfl⟩ rfl rfl nj_ro_Md_mean hkc hks rfl (pa_Law_Md (w54.2) m (w57.2)) ?_
        refine vr_cm_eq C nd_Law_441 (fun hc => ?_) (fun hc => ?_)
        · have h := no_t hc h
          refine vr_inc (v := (v3 + (6 : Int32))) (ls' := [some (.ref 2000), some (.ref 0), some (.ref 53), some (.int (v3 + (6 : Int32)))]) C nd_Law_1296 rfl rfl rfl rfl rfl ?_
          refine vr_go C nd_Law_1299 ?_
          exact ih _ _ _ _ h
        · have h := no_f hc h
          refine vr_ic C nd_Law_444 ?_
          cases h
      have h := no_f hS59 h
      by_cases hS68 : ((xs (nj_n v3)) &&& (63 : Int32)) = (6 : Int32)
      · have h := no_t hS68 h
        refine vr_tsI (6 : Int32) C nd_Law_33 hS68 (by decide) (by decide) rfl rfl ?_
        refine vr_al C nd_Law_446 rfl ?_
        refine vr_al C nd_Law_447 rfl ?_
        refine vr_il C nd_Law_448 rfl ?_
        refine vr_ic C nd_Law_449 ?_
        refine vr_iadd C nd_Law_450 rfl ?_
        obtain ⟨hN60, h⟩ := no_i h
        refine vr_script C hW nd_Law_451 rfl hN60 ?_
        refine vr_al C nd_Law_452 rfl ?_
        refine vr_il C nd_Law_453 rfl ?_
        refine vr_ic C nd_Law_454 ?_
        refine vr_iadd C nd_Law_455 rfl ?_
        obtain ⟨hN61, h⟩ := no_i h
        refine vr_script C hW nd_Law_456 rfl hN61 ?_
        obtain ⟨w62, hV63, h⟩ := no_b h
        refine vr_cVi (hp' := (rp_Law (w62.2) m)) nj_isX [.int (xs (nj_n (v3 + (1 : Int32)))), .int (xs (nj_n (v3 + (2 : Int32))))] [] C nd_Law_457 rfl ml_Law_41 my_Nj_text (co_Nj_text s (xs (nj_n (v3 + (1 : Int32)))) (xs (nj_n (v3 + (2 : Int32)))) w62 hV63) (em_Law_Nj s m) ⟨_, _, _, rfl, rfl, rfl⟩ rfl rfl nj_ro_Nj_text hkc hks rfl (pa_Law_Nj s m (w62.2)) ?_
        refine vr_al C nd_Law_460 rfl ?_
        refine vr_al C nd_Law_461 rfl ?_
        refine vr_il C nd_Law_462 rfl ?_
        refine vr_ic C nd_Law_463 ?_
        refine vr_iadd C nd_Law_464 rfl ?_
        obtain ⟨hN64, h⟩ := no_i h
        refine vr_script C hW nd_Law_465 rfl hN64 ?_
        refine vr_al C nd_Law_466 rfl ?_
        refine vr_il C nd_Law_467 rfl ?_
        refine vr_ic C nd_Law_468 ?_
        refine vr_iadd C nd_Law_469 rfl ?_
        obtain ⟨hN65, h⟩ := no_i h
        refine vr_script C hW nd_Law_470 rfl hN65 ?_
        obtain ⟨w66, hV67, h⟩ := no_b h
        refine vr_cVi (hp' := (rp_Law (w62.2) (w66.2))) nj_isM [.int (xs (nj_n (v3 + (1 : Int32)))), .int (xs (nj_n (v3 + (2 : Int32))))] [.int (w62.1)] C nd_Law_471 rfl ml_Law_44 my_Md_text (co_Md_text m (xs (nj_n (v3 + (1 : Int32)))) (xs (nj_n (v3 + (2 : Int32)))) w66 hV67) (em_Law_Md (w62.2) m) ⟨_, _, _, rfl, rfl, rfl⟩ rfl rfl nj_ro_Md_text hkc hks rfl (pa_Law_Md (w62.2) m (w66.2)) ?_
        refine vr_cm_eq C nd_Law_474 (fun hc => ?_) (fun hc => ?_)
        · have h := no_t hc h
          refine vr_inc (v := (v3 + (6 : Int32))) (ls' := [some (.ref 2000), some (.ref 0), some (.ref 53), some (.int (v3 + (6 : Int32)))]) C nd_Law_1296 rfl rfl rfl rfl rfl ?_
          refine vr_go C nd_Law_1299 ?_
          exact ih _ _ _ _ h
        · have h := no_f hc h
          refine vr_ic C nd_Law_477 ?_
          cases h
      have h := no_f hS68 h
      by_cases hS79 : ((xs (nj_n v3)) &&& (63 : Int32)) = (7 : Int32)
      · have h := no_t hS79 h
        refine vr_tsI (7 : Int32) C nd_Law_33 hS79 (by decide) (by decide) rfl rfl ?_
        refine vr_al C nd_Law_479 rfl ?_
        refine vr_al C nd_Law_480 rfl ?_
        refine vr_il C nd_Law_481 rfl ?_
        refine vr_ic C nd_Law_482 ?_
        refine vr_iadd C nd_Law_483 rfl ?_
        obtain ⟨hN69, h⟩ := no_i h
        refine vr_script C hW nd_Law_484 rfl hN69 ?_
        refine vr_al C nd_Law_485 rfl ?_
        refine vr_il C nd_Law_486 rfl ?_
        refine vr_ic C nd_Law_487 ?_
        refine vr_iadd C nd_Law_488 rfl ?_
        obtain ⟨hN70, h⟩ := no_i h
        refine vr_script C hW nd_Law_489 rfl hN70 ?_
        refine vr_al C nd_Law_490 rfl ?_
        refine vr_il C nd_Law_491 rfl ?_
        refine vr_ic C nd_Law_492 ?_
        refine vr_iadd C nd_Law_493 rfl ?_
        obtain ⟨hN71, h⟩ := no_i h
        refine vr_script C hW nd_Law_494 rfl hN71 ?_
        obtain ⟨w72, hV73, h⟩ := no_b h
        refine vr_cVi (hp' := (rp_Law (w72.2) m)) nj_isX [.int (xs (nj_n (v3 + (1 : Int32)))), .int (xs (nj_n (v3 + (2 : Int32)))), .int (xs (nj_n (v3 + (3 : Int32))))] [] C nd_Law_495 rfl ml_Law_45 my_Nj_put (co_Nj_put s (xs (nj_n (v3 + (1 : Int32)))) (xs (nj_n (v3 + (2 : Int32)))) (xs (nj_n (v3 + (3 : Int32)))) w72 hV73) (em_Law_Nj s m) ⟨_, _, _, rfl, rfl, rfl⟩ rfl rfl nj_ro_Nj_put hkc hks rfl (pa_Law_Nj s m (w72.2)) ?_
        refine vr_al C nd_Law_498 rfl ?_
        refine vr_al C nd_Law_499 rfl ?_
        refine vr_il C nd_Law_500 rfl ?_
        refine vr_ic C nd_Law_501 ?_
        refine vr_iadd C nd_Law_502 rfl ?_
        obtain ⟨hN74, h⟩ := no_i h
        refine vr_script C hW nd_Law_503 rfl hN74 ?_
        refine vr_al C nd_Law_504 rfl ?_
        refine vr_il C nd_Law_505 rfl ?_
        refine vr_ic C nd_Law_506 ?_
        refine vr_iadd C nd_Law_507 rfl ?_
        obtain ⟨hN75, h⟩ := no_i h
        refine vr_script C hW nd_Law_508 rfl hN75 ?_
        refine vr_al C nd_Law_509 rfl ?_
        refine vr_il C nd_Law_510 rfl ?_
        refine vr_ic C nd_Law_511 ?_
        refine vr_iadd C nd_Law_512 rfl ?_
        obtain ⟨hN76, h⟩ := no_i h
        refine vr_script C hW nd_Law_513 rfl hN76 ?_
        obtain ⟨w77, hV78, h⟩ := no_b h
        refine vr_cVi (hp' := (rp_Law (w72.2) (w77.2))) nj_isM [.int (xs (nj_n (v3 + (1 : Int32)))), .int (xs (nj_n (v3 + (2 : Int32)))), .int (xs (nj_n (v3 + (3 : Int32))))] [.int (w72.1)] C nd_Law_514 rfl ml_Law_48 my_Md_put (co_Md_put m (xs (nj_n (v3 + (1 : Int32)))) (xs (nj_n (v3 + (2 : Int32)))) (xs (nj_n (v3 + (3 : Int32)))) w77 hV78) (em_Law_Md (w72.2) m) ⟨_, _, _, rfl, rfl, rfl⟩ rfl rfl nj_ro_Md_put hkc hks rfl (pa_Law_Md (w72.2) m (w77.2)) ?_
        refine vr_cm_eq C nd_Law_517 (fun hc => ?_) (fun hc => ?_)
        · have h := no_t hc h
          refine vr_inc (v := (v3 + (6 : Int32))) (ls' := [some (.ref 2000), some (.ref 0), some (.ref 53), some (.int (v3 + (6 : Int32)))]) C nd_Law_1296 rfl rfl rfl rfl rfl ?_
          refine vr_go C nd_Law_1299 ?_
          exact ih _ _ _ _ h
        · have h := no_f hc h
          refine vr_ic C nd_Law_520 ?_
          cases h
      have h := no_f hS79 h
      by_cases hS86 : ((xs (nj_n v3)) &&& (63 : Int32)) = (8 : Int32)
      · have h := no_t hS86 h
        refine vr_tsI (8 : Int32) C nd_Law_33 hS86 (by decide) (by decide) rfl rfl ?_
        refine vr_al C nd_Law_522 rfl ?_
        refine vr_al C nd_Law_523 rfl ?_
        refine vr_il C nd_Law_524 rfl ?_
        refine vr_ic C nd_Law_525 ?_
        refine vr_iadd C nd_Law_526 rfl ?_
        obtain ⟨hN80, h⟩ := no_i h
        refine vr_script C hW nd_Law_527 rfl hN80 ?_
        obtain ⟨w81, hV82, h⟩ := no_b h
        refine vr_cVi (hp' := (rp_Law (w81.2) m)) nj_isX [.int (xs (nj_n (v3 + (1 : Int32))))] [] C nd_Law_528 rfl ml_Law_49 my_Nj_fault (co_Nj_fault s (xs (nj_n (v3 + (1 : Int32)))) w81 hV82) (em_Law_Nj s m) ⟨_, _, _, rfl, rfl, rfl⟩ rfl rfl nj_ro_Nj_fault hkc hks rfl (pa_Law_Nj s m (w81.2)) ?_
        refine vr_al C nd_Law_531 rfl ?_
        refine vr_al C nd_Law_532 rfl ?_
        refine vr_il C nd_Law_533 rfl ?_
        refine vr_ic C nd_Law_534 ?_
        refine vr_iadd C nd_Law_535 rfl ?_
        obtain ⟨hN83, h⟩ := no_i h
        refine vr_script C hW nd_Law_536 rfl hN83 ?_
        obtain ⟨w84, hV85, h⟩ := no_b h
        refine vr_cVi (hp' := (rp_Law (w81.2) (w84.2))) nj_isM [.int (xs (nj_n (v3 + (1 : Int32))))] [.int (w81.1)] C nd_Law_537 rfl ml_Law_52 my_Md_fault (co_Md_fault m (xs (nj_n (v3 + (1 : Int32)))) w84 hV85) (em_Law_Md (w81.2) m) ⟨_, _, _, rfl, rfl, rfl⟩ rfl rfl nj_ro_Md_fault hkc hks rfl (pa_Law_Md (w81.2) m (w84.2)) ?_
        refine vr_cm_eq C nd_Law_540 (fun hc => ?_) (fun hc => ?_)
        · have h := no_t hc h
          refine vr_inc (v := (v3 + (6 : Int32))) (ls' := [some (.ref 2000), some (.ref 0), some (.ref 53), some (.int (v3 + (6 : Int32)))]) C nd_Law_1296 rfl rfl rfl rfl rfl ?_
          refine vr_go C nd_Law_1299 ?_
          exact ih _ _ _ _ h
        · have h := no_f hc h
          refine vr_ic C nd_Law_543 ?_
          cases h
      have h := no_f hS86 h
      by_cases hS93 : ((xs (nj_n v3)) &&& (63 : Int32)) = (9 : Int32)
      · have h := no_t hS93 h
        refine vr_tsI (9 : Int32) C nd_Law_33 hS93 (by decide) (by decide) rfl rfl ?_
        refine vr_al C nd_Law_545 rfl ?_
        refine vr_al C nd_Law_546 rfl ?_
        refine vr_il C nd_Law_547 rfl ?_
        refine vr_ic C nd_Law_548 ?_
        refine vr_iadd C nd_Law_549 rfl ?_
        obtain ⟨hN87, h⟩ := no_i h
        refine vr_script C hW nd_Law_550 rfl hN87 ?_
        obtain ⟨w88, hV89, h⟩ := no_b h
        refine vr_cVi (hp' := (rp_Law (w88.2) m)) nj_isX [.int (xs (nj_n (v3 + (1 : Int32))))] [] C nd_Law_551 rfl ml_Law_53 my_Nj_club (co_Nj_club s (xs (nj_n (v3 + (1 : Int32)))) w88 hV89) (em_Law_Nj s m) ⟨_, _, _, rfl, rfl, rfl⟩ rfl rfl nj_ro_Nj_club hkc hks rfl (pa_Law_Nj s m (w88.2)) ?_
        refine vr_al C nd_Law_554 rfl ?_
        refine vr_al C nd_Law_555 rfl ?_
        refine vr_il C nd_Law_556 rfl ?_
        refine vr_ic C nd_Law_557 ?_
        refine vr_iadd C nd_Law_558 rfl ?_
        obtain ⟨hN90, h⟩ := no_i h
        refine vr_script C hW nd_Law_559 rfl hN90 ?_
        obtain ⟨w91, hV92, h⟩ := no_b h
        refine vr_cVi (hp' := (rp_Law (w88.2) (w91.2))) nj_isM [.int (xs (nj_n (v3 + (1 : Int32))))] [.int (w88.1)] C nd_Law_560 rfl ml_Law_56 my_Md_club (co_Md_club m (xs (nj_n (v3 + (1 : Int32)))) w91 hV92) (em_Law_Md (w88.2) m) ⟨_, _, _, rfl, rfl, rfl⟩ rfl rfl nj_ro_Md_club hkc hks rfl (pa_Law_Md (w88.2) m (w91.2)) ?_
        refine vr_cm_eq C nd_Law_563 (fun hc => ?_) (fun hc => ?_)
        · have h := no_t hc h
          refine vr_inc (v := (v3 + (6 : Int32))) (ls' := [some (.ref 2000), some (.ref 0), some (.ref 53), some (.int (v3 + (6 : Int32)))]) C nd_Law_1296 rfl rfl rfl rfl rfl ?_
          refine vr_go C nd_Law_1299 ?_
          exact ih _ _ _ _ h
        · have h := no_f hc h
          refine vr_ic C nd_Law_566 ?_
          cases h
      have h := no_f hS93 h
      by_cases hS102 : ((xs (nj_n v3)) &&& (63 : Int32)) = (10 : Int32)
      · have h := no_t hS102 h
        refine vr_tsI (10 : Int32) C nd_Law_33 hS102 (by decide) (by decide) rfl rfl ?_
        refine vr_al C nd_Law_568 rfl ?_
        refine vr_al C nd_Law_569 rfl ?_
        refine vr_il C nd_Law_570 rfl ?_
        refine vr_ic C nd_Law_571 ?_
        refine vr_iadd C nd_Law_572 rfl ?_
        obtain ⟨hN94, h⟩ := no_i h
        refine vr_script C hW nd_Law_573 rfl hN94 ?_
        refine vr_al C nd_Law_574 rfl ?_
        refine vr_il C nd_Law_575 rfl ?_
        refine vr_ic C nd_Law_576 ?_
        refine vr_iadd C nd_Law_577 rfl ?_
        obtain ⟨hN95, h⟩ := no_i h
        refine vr_script C hW nd_Law_578 rfl hN95 ?_
        obtain ⟨w96, hV97, h⟩ := no_b h
        refine vr_cVi (hp' := (rp_Law (w96.2) m)) nj_isX [.int (xs (nj_n (v3 + (1 : Int32)))), .int (xs (nj_n (v3 + (2 : Int32))))] [] C nd_Law_579 rfl ml_Law_57 my_Nj_child (co_Nj_child s (xs (nj_n (v3 + (1 : Int32)))) (xs (nj_n (v3 + (2 : Int32)))) w96 hV97) (em_Law_Nj s m) ⟨_, _, _, rfl, rfl, rfl⟩ rfl rfl nj_ro_Nj_child hkc hks rfl (pa_Law_Nj s m (w96.2)) ?_
        refine vr_al C nd_Law_582 rfl ?_
        refine vr_al C nd_Law_583 rfl ?_
        refine vr_il C nd_Law_584 rfl ?_
        refine vr_ic C nd_Law_585 ?_
        refine vr_iadd C nd_Law_586 rfl ?_
        obtain ⟨hN98, h⟩ := no_i h
        refine vr_script C hW nd_Law_587 rfl hN98 ?_
        refine vr_al C nd_Law_588 rfl ?_
        refine vr_il C nd_Law_589 rfl ?_
        refine vr_ic C nd_Law_590 ?_
        refine vr_iadd C nd_Law_591 rfl ?_
        obtain ⟨hN99, h⟩ := no_i h
        refine vr_script C hW nd_Law_592 rfl hN99 ?_
        obtain ⟨w100, hV101, h⟩ := no_b h
        refine vr_cVi (hp' := (rp_Law (w96.2) (w100.2))) nj_isM [.int (xs (nj_n (v3 + (1 : Int32)))), .int (xs (nj_n (v3 + (2 : Int32))))] [.int (w96.1)] C nd_Law_593 rfl ml_Law_60 my_Md_child (co_Md_child m (xs (nj_n (v3 + (1 : Int32)))) (xs (nj_n (v3 + (2 : Int32)))) w100 hV101) (em_Law_Md (w96.2) m) ⟨_, _, _, rfl, rfl, rfl⟩ rfl rfl nj_ro_Md_child hkc hks rfl (pa_Law_Md (w96.2) m (w100.2)) ?_
        refine vr_cm_eq C nd_Law_596 (fun hc => ?_) (fun hc => ?_)
        · have h := no_t hc h
          refine vr_inc (v := (v3 + (6 : Int32))) (ls' := [some (.ref 2000), some (.ref 0), some (.ref 53), some (.int (v3 + (6 : Int32)))]) C nd_Law_1296 rfl rfl rfl rfl rfl ?_
          refine vr_go C nd_Law_1299 ?_
          exact ih _ _ _ _ h
        · have h := no_f hc h
          refine vr_ic C nd_Law_599 ?_
          cases h
      have h := no_f hS102 h
      by_cases hS111 : ((xs (nj_n v3)) &&& (63 : Int32)) = (11 : Int32)
      · have h := no_t hS111 h
        refine vr_tsI (11 : Int32) C nd_Law_33 hS111 (by decide) (by decide) rfl rfl ?_
        refine vr_al C nd_Law_601 rfl ?_
        refine vr_al C nd_Law_602 rfl ?_
        refine vr_il C nd_Law_603 rfl ?_
        refine vr_ic C nd_Law_604 ?_
        refine vr_iadd C nd_Law_605 rfl ?_
        obtain ⟨hN103, h⟩ := no_i h
        refine vr_script C hW nd_Law_606 rfl hN103 ?_
        refine vr_al C nd_Law_607 rfl ?_
        refine vr_il C nd_Law_608 rfl ?_
        refine vr_ic C nd_Law_609 ?_
        refine vr_iadd C nd_Law_610 rfl ?_
        obtain ⟨hN104, h⟩ := no_i h
        refine vr_script C hW nd_Law_611 rfl hN104 ?_
        obtain ⟨w105, hV106, h⟩ := no_b h
        refine vr_cVi (hp' := (rp_Law (w105.2) m)) nj_isX [.int (xs (nj_n (v3 + (1 : Int32)))), .int (xs (nj_n (v3 + (2 : Int32))))] [] C nd_Law_612 rfl ml_Law_61 my_Nj_mark (co_Nj_mark s (xs (nj_n (v3 + (1 : Int32)))) (xs (nj_n (v3 + (2 : Int32)))) w105 hV106) (em_Law_Nj s m) ⟨_, _, _, rfl, rfl, rfl⟩ rfl rfl nj_ro_Nj_mark hkc hks rfl (pa_Law_Nj s m (w105.2)) ?_
        refine vr_al C nd_Law_615 rfl ?_
        refine vr_al C nd_Law_616 rfl ?_
        refine vr_il C nd_Law_617 rfl ?_
        refine vr_ic C nd_Law_618 ?_
        refine vr_iadd C nd_Law_619 rfl ?_
        obtain ⟨hN107, h⟩ := no_i h
        refine vr_script C hW nd_Law_620 rfl hN107 ?_
        refine vr_al C nd_Law_621 rfl ?_
        refine vr_il C nd_Law_622 rfl ?_
        refine vr_ic C nd_Law_623 ?_
        refine vr_iadd C nd_Law_624 rfl ?_
        obtain ⟨hN108, h⟩ := no_i h
        refine vr_script C hW nd_Law_625 rfl hN108 ?_
        obtain ⟨w109, hV110, h⟩ := no_b h
        refine vr_cVi (hp' := (rp_Law (w105.2) (w109.2))) nj_isM [.int (xs (nj_n (v3 + (1 : Int32)))), .int (xs (nj_n (v3 + (2 : Int32))))] [.int (w105.1)] C nd_Law_626 rfl ml_Law_64 my_Md_mark (co_Md_mark m (xs (nj_n (v3 + (1 : Int32)))) (xs (nj_n (v3 + (2 : Int32)))) w109 hV110) (em_Law_Md (w105.2) m) ⟨_, _, _, rfl, rfl, rfl⟩ rfl rfl nj_ro_Md_mark hkc hks rfl (pa_Law_Md (w105.2) m (w109.2)) ?_
        refine vr_cm_eq C nd_Law_629 (fun hc => ?_) (fun hc => ?_)
        · have h := no_t hc h
          refine vr_inc (v := (v3 + (6 : Int32))) (ls' := [some (.ref 2000), some (.ref 0), some (.ref 53), some (.int (v3 + (6 : Int32)))]) C nd_Law_1296 rfl rfl rfl rfl rfl ?_
          refine vr_go C nd_Law_1299 ?_
          exact ih _ _ _ _ h
        · have h := no_f hc h
          refine vr_ic C nd_Law_632 ?_
          cases h
      have h := no_f hS111 h
      by_cases hS118 : ((xs (nj_n v3)) &&& (63 : Int32)) = (12 : Int32)
      · have h := no_t hS118 h
        refine vr_tsI (12 : Int32) C nd_Law_33 hS118 (by decide) (by decide) rfl rfl ?_
        refine vr_al C nd_Law_634 rfl ?_
        refine vr_al C nd_Law_635 rfl ?_
        refine vr_il C nd_Law_636 rfl ?_
        refine vr_ic C nd_Law_637 ?_
        refine vr_iadd C nd_Law_638 rfl ?_
        obtain ⟨hN112, h⟩ := no_i h
        refine vr_script C hW nd_Law_639 rfl hN112 ?_
        obtain ⟨w113, hV114, h⟩ := no_b h
        refine vr_cVi (hp' := (rp_Law (w113.2) m)) nj_isX [.int (xs (nj_n (v3 + (1 : Int32))))] [] C nd_Law_640 rfl ml_Law_65 my_Nj_rule (co_Nj_rule s (xs (nj_n (v3 + (1 : Int32)))) w113 hV114) (em_Law_Nj s m) ⟨_, _, _, rfl, rfl, rfl⟩ rfl rfl nj_ro_Nj_rule hkc hks rfl (pa_Law_Nj s m (w113.2)) ?_
        refine vr_al C nd_Law_643 rfl ?_
        refine vr_al C nd_Law_644 rfl ?_
        refine vr_il C nd_Law_645 rfl ?_
        refine vr_ic C nd_Law_646 ?_
        refine vr_iadd C nd_Law_647 rfl ?_
        obtain ⟨hN115, h⟩ := no_i h
        refine vr_script C hW nd_Law_648 rfl hN115 ?_
        obtain ⟨w116, hV117, h⟩ := no_b h
        refine vr_cVi (hp' := (rp_Law (w113.2) (w116.2))) nj_isM [.int (xs (nj_n (v3 + (1 : Int32))))] [.int (w113.1)] C nd_Law_649 rfl ml_Law_68 my_Md_rule (co_Md_rule m (xs (nj_n (v3 + (1 : Int32)))) w116 hV117) (em_Law_Md (w113.2) m) ⟨_, _, _, rfl, rfl, rfl⟩ rfl rfl nj_ro_Md_rule hkc hks rfl (pa_Law_Md (w113.2) m (w116.2)) ?_
        refine vr_cm_eq C nd_Law_652 (fun hc => ?_) (fun hc => ?_)
        · have h := no_t hc h
          refine vr_inc (v := (v3 + (6 : Int32))) (ls' := [some (.ref 2000), some (.ref 0), some (.ref 53), some (.int (v3 + (6 : Int32)))]) C nd_Law_1296 rfl rfl rfl rfl rfl ?_
          refine vr_go C nd_Law_1299 ?_
          exact ih _ _ _ _ h
        · have h := no_f hc h
          refine vr_ic C nd_Law_655 ?_
          cases h
      have h := no_f hS118 h
      by_cases hS125 : ((xs (nj_n v3)) &&& (63 : Int32)) = (13 : Int32)
      · have h := no_t hS125 h
        refine vr_tsI (13 : Int32) C nd_Law_33 hS125 (by decide) (by decide) rfl rfl ?_
        refine vr_al C nd_Law_657 rfl ?_
        refine vr_al C nd_Law_658 rfl ?_
        refine vr_il C nd_Law_659 rfl ?_
        refine vr_ic C nd_Law_660 ?_
        refine vr_iadd C nd_Law_661 rfl ?_
        obtain ⟨hN119, h⟩ := no_i h
        refine vr_script C hW nd_Law_662 rfl hN119 ?_
        obtain ⟨w120, hV121, h⟩ := no_b h
        refine vr_cVi (hp' := (rp_Law (w120.2) m)) nj_isX [.int (xs (nj_n (v3 + (1 : Int32))))] [] C nd_Law_663 rfl ml_Law_69 my_Nj_oust (co_Nj_oust s (xs (nj_n (v3 + (1 : Int32)))) w120 hV121) (em_Law_Nj s m) ⟨_, _, _, rfl, rfl, rfl⟩ rfl rfl nj_ro_Nj_oust hkc hks rfl (pa_Law_Nj s m (w120.2)) ?_
        refine vr_al C nd_Law_666 rfl ?_
        refine vr_al C nd_Law_667 rfl ?_
        refine vr_il C nd_Law_668 rfl ?_
        refine vr_ic C nd_Law_669 ?_
        refine vr_iadd C nd_Law_670 rfl ?_
        obtain ⟨hN122, h⟩ := no_i h
        refine vr_script C hW nd_Law_671 rfl hN122 ?_
        obtain ⟨w123, hV124, h⟩ := no_b h
        refine vr_cVi (hp' := (rp_Law (w120.2) (w123.2))) nj_isM [.int (xs (nj_n (v3 + (1 : Int32))))] [.int (w120.1)] C nd_Law_672 rfl ml_Law_72 my_Md_oust (co_Md_oust m (xs (nj_n (v3 + (1 : Int32)))) w123 hV124) (em_Law_Md (w120.2) m) ⟨_, _, _, rfl, rfl, rfl⟩ rfl rfl nj_ro_Md_oust hkc hks rfl (pa_Law_Md (w120.2) m (w123.2)) ?_
        refine vr_cm_eq C nd_Law_675 (fun hc => ?_) (fun hc => ?_)
        · have h := no_t hc h
          refine vr_inc (v := (v3 + (6 : Int32))) (ls' := [some (.ref 2000), some (.ref 0), some (.ref 53), some (.int (v3 + (6 : Int32)))]) C nd_Law_1296 rfl rfl rfl rfl rfl ?_
          refine vr_go C nd_Law_1299 ?_
          exact ih _ _ _ _ h
        · have h := no_f hc h
          refine vr_ic C nd_Law_678 ?_
          cases h
      have h := no_f hS125 h
      by_cases hS132 : ((xs (nj_n v3)) &&& (63 : Int32)) = (14 : Int32)
      · have h := no_t hS132 h
        refine vr_tsI (14 : Int32) C nd_Law_33 hS132 (by decide) (by decide) rfl rfl ?_
        refine vr_al C nd_Law_680 rfl ?_
        refine vr_al C nd_Law_681 rfl ?_
        refine vr_il C nd_Law_682 rfl ?_
        refine vr_ic C nd_Law_683 ?_
        refine vr_iadd C nd_Law_684 rfl ?_
        obtain ⟨hN126, h⟩ := no_i h
        refine vr_script C hW nd_Law_685 rfl hN126 ?_
        obtain ⟨w127, hV128, h⟩ := no_b h
        refine vr_cVi (hp' := (rp_Law (w127.2) m)) nj_isX [.int (xs (nj_n (v3 + (1 : Int32))))] [] C nd_Law_686 rfl ml_Law_73 my_Nj_join (co_Nj_join s (xs (nj_n (v3 + (1 : Int32)))) w127 hV128) (em_Law_Nj s m) ⟨_, _, _, rfl, rfl, rfl⟩ rfl rfl nj_ro_Nj_join hkc hks rfl (pa_Law_Nj s m (w127.2)) ?_
        refine vr_al C nd_Law_689 rfl ?_
        refine vr_al C nd_Law_690 rfl ?_
        refine vr_il C nd_Law_691 rfl ?_
        refine vr_ic C nd_Law_692 ?_
        refine vr_iadd C nd_Law_693 rfl ?_
        obtain ⟨hN129, h⟩ := no_i h
        refine vr_script C hW nd_Law_694 rfl hN129 ?_
        obtain ⟨w130, hV131, h⟩ := no_b h
        refine vr_cVi (hp' := (rp_Law (w127.2) (w130.2))) nj_isM [.int (xs (nj_n (v3 + (1 : Int32))))] [.int (w127.1)] C nd_Law_695 rfl ml_Law_76 my_Md_join (co_Md_join m (xs (nj_n (v3 + (1 : Int32)))) w130 hV131) (em_Law_Md (w127.2) m) ⟨_, _, _, rfl, rfl, rfl⟩ rfl rfl nj_ro_Md_join hkc hks rfl (pa_Law_Md (w127.2) m (w130.2)) ?_
        refine vr_cm_eq C nd_Law_698 (fun hc => ?_) (fun hc => ?_)
        · have h := no_t hc h
          refine vr_inc (v := (v3 + (6 : Int32))) (ls' := [some (.ref 2000), some (.ref 0), some (.ref 53), some (.int (v3 + (6 : Int32)))]) C nd_Law_1296 rfl rfl rfl rfl rfl ?_
          refine vr_go C nd_Law_1299 ?_
          exact ih _ _ _ _ h
        · have h := no_f hc h
          refine vr_ic C nd_Law_701 ?_
          cases h
      have h := no_f hS132 h
      by_cases hS137 : ((xs (nj_n v3)) &&& (63 : Int32)) = (15 : Int32)
      · have h := no_t hS137 h
        refine vr_tsI (15 : Int32) C nd_Law_33 hS137 (by decide) (by decide) rfl rfl ?_
        refine vr_al C nd_Law_703 rfl ?_
        obtain ⟨w133, hV134, h⟩ := no_b h
        refine vr_cVi (hp' := (rp_Law (w133.2) m)) nj_isX [] [] C nd_Law_704 rfl ml_Law_77 my_Nj_fee (co_Nj_fee s w133 hV134) (em_Law_Nj s m) ⟨_, _, _, rfl, rfl, rfl⟩ rfl rfl nj_ro_Nj_fee hkc hks rfl (pa_Law_Nj s m (w133.2)) ?_
        refine vr_al C nd_Law_707 rfl ?_
        obtain ⟨w135, hV136, h⟩ := no_b h
        refine vr_cVi (hp' := (rp_Law (w133.2) (w135.2))) nj_isM [] [.int (w133.1)] C nd_Law_708 rfl ml_Law_81 my_Md_fee (co_Md_fee m w135 hV136) (em_Law_Md (w133.2) m) ⟨_, _, _, rfl, rfl, rfl⟩ rfl rfl nj_ro_Md_fee hkc hks rfl (pa_Law_Md (w133.2) m (w135.2)) ?_
        refine vr_cm_eq C nd_Law_711 (fun hc => ?_) (fun hc => ?_)
        · have h := no_t hc h
          refine vr_inc (v := (v3 + (6 : Int32))) (ls' := [some (.ref 2000), some (.ref 0), some (.ref 53), some (.int (v3 + (6 : Int32)))]) C nd_Law_1296 rfl rfl rfl rfl rfl ?_
          refine vr_go C nd_Law_1299 ?_
          exact ih _ _ _ _ h
        · have h := no_f hc h
          refine vr_ic C nd_Law_714 ?_
          cases h
      have h := no_f hS137 h
      by_cases hS146 : ((xs (nj_n v3)) &&& (63 : Int32)) = (16 : Int32)
      · have h := no_t hS146 h
        refine vr_tsI (16 : Int32) C nd_Law_33 hS146 (by decide) (by decide) rfl rfl ?_
        refine vr_al C nd_Law_716 rfl ?_
        refine vr_al C nd_Law_717 rfl ?_
        refine vr_il C nd_Law_718 rfl ?_
        refine vr_ic C nd_Law_719 ?_
        refine vr_iadd C nd_Law_720 rfl ?_
        obtain ⟨hN138, h⟩ := no_i h
        refine vr_script C hW nd_Law_721 rfl hN138 ?_
        refine vr_al C nd_Law_722 rfl ?_
        refine vr_il C nd_Law_723 rfl ?_
        refine vr_ic C nd_Law_724 ?_
        refine vr_iadd C nd_Law_725 rfl ?_
        obtain ⟨hN139, h⟩ := no_i h
        refine vr_script C hW nd_Law_726 rfl hN139 ?_
        obtain ⟨w140, hV141, h⟩ := no_b h
        refine vr_cVi (hp' := (rp_Law (w140.2) m)) nj_isX [.int (xs (nj_n (v3 + (1 : Int32)))), .int (xs (nj_n (v3 + (2 : Int32))))] [] C nd_Law_727 rfl ml_Law_82 my_Nj_grudge (co_Nj_grudge s (xs (nj_n (v3 + (1 : Int32)))) (xs (nj_n (v3 + (2 : Int32)))) w140 hV141) (em_Law_Nj s m) ⟨_, _, _, rfl, rfl, rfl⟩ rfl rfl nj_ro_Nj_grudge hkc hks rfl (pa_Law_Nj s m (w140.2)) ?_
        refine vr_al C nd_Law_730 rfl ?_
        refine vr_al C nd_Law_731 rfl ?_
        refine vr_il C nd_Law_732 rfl ?_
        refine vr_ic C nd_Law_733 ?_
        refine vr_iadd C nd_Law_734 rfl ?_
        obtain ⟨hN142, h⟩ := no_i h
        refine vr_script C hW nd_Law_735 rfl hN142 ?_
        refine vr_al C nd_Law_736 rfl ?_
        refine vr_il C nd_Law_737 rfl ?_
        refine vr_ic C nd_Law_738 ?_
        refine vr_iadd C nd_Law_739 rfl ?_
        obtain ⟨hN143, h⟩ := no_i h
        refine vr_script C hW nd_Law_740 rfl hN143 ?_
        obtain ⟨w144, hV145, h⟩ := no_b h
        refine vr_cVi (hp' := (rp_Law (w140.2) (w144.2))) nj_isM [.int (xs (nj_n (v3 + (1 : Int32)))), .int (xs (nj_n (v3 + (2 : Int32))))] [.int (w140.1)] C nd_Law_741 rfl ml_Law_85 my_Md_grudge (co_Md_grudge m (xs (nj_n (v3 + (1 : Int32)))) (xs (nj_n (v3 + (2 : Int32)))) w144 hV145) (em_Law_Md (w140.2) m) ⟨_, _, _, rfl, rfl, rfl⟩ rfl rfl nj_ro_Md_grudge hkc hks rfl (pa_Law_Md (w140.2) m (w144.2)) ?_
        refine vr_cm_eq C nd_Law_744 (fun hc => ?_) (fun hc => ?_)
        · have h := no_t hc h
          refine vr_inc (v := (v3 + (6 : Int32))) (ls' := [some (.ref 2000), some (.ref 0), some (.ref 53), some (.int (v3 + (6 : Int32)))]) C nd_Law_1296 rfl rfl rfl rfl rfl ?_
          refine vr_go C nd_Law_1299 ?_
          exact ih _ _ _ _ h
        · have h := no_f hc h
          refine vr_ic C nd_Law_747 ?_
          cases h
      have h := no_f hS146 h
      by_cases hS153 : ((xs (nj_n v3)) &&& (63 : Int32)) = (17 : Int32)
      · have h := no_t hS153 h
        refine vr_tsI (17 : Int32) C nd_Law_33 hS153 (by decide) (by decide) rfl rfl ?_
        refine vr_al C nd_Law_749 rfl ?_
        refine vr_al C nd_Law_750 rfl ?_
        refine vr_il C nd_Law_751 rfl ?_
        refine vr_ic C nd_Law_752 ?_
        refine vr_iadd C nd_Law_753 rfl ?_
        obtain ⟨hN147, h⟩ := no_i h
        refine vr_script C hW nd_Law_754 rfl hN147 ?_
        obtain ⟨w148, hV149, h⟩ := no_b h
        refine vr_cVi (hp' := (rp_Law (w148.2) m)) nj_isX [.int (xs (nj_n (v3 + (1 : Int32))))] [] C nd_Law_755 rfl ml_Law_86 my_Nj_undo (co_Nj_undo s (xs (nj_n (v3 + (1 : Int32)))) w148 hV149) (em_Law_Nj s m) ⟨_, _, _, rfl, rfl, rfl⟩ rfl rfl nj_ro_Nj_undo hkc hks rfl (pa_Law_Nj s m (w148.2)) ?_
        refine vr_al C nd_Law_758 rfl ?_
        refine vr_al C nd_Law_759 rfl ?_
        refine vr_il C nd_Law_760 rfl ?_
        refine vr_ic C nd_Law_761 ?_
        refine vr_iadd C nd_Law_762 rfl ?_
        obtain ⟨hN150, h⟩ := no_i h
        refine vr_script C hW nd_Law_763 rfl hN150 ?_
        obtain ⟨w151, hV152, h⟩ := no_b h
        refine vr_cVi (hp' := (rp_Law (w148.2) (w151.2))) nj_isM [.int (xs (nj_n (v3 + (1 : Int32))))] [.int (w148.1)] C nd_Law_764 rfl ml_Law_89 my_Md_undo (co_Md_undo m (xs (nj_n (v3 + (1 : Int32)))) w151 hV152) (em_Law_Md (w148.2) m) ⟨_, _, _, rfl, rfl, rfl⟩ rfl rfl nj_ro_Md_undo hkc hks rfl (pa_Law_Md (w148.2) m (w151.2)) ?_
        refine vr_cm_eq C nd_Law_767 (fun hc => ?_) (fun hc => ?_)
        · have h := no_t hc h
          refine vr_inc (v := (v3 + (6 : Int32))) (ls' := [some (.ref 2000), some (.ref 0), some (.ref 53), some (.int (v3 + (6 : Int32)))]) C nd_Law_1296 rfl rfl rfl rfl rfl ?_
          refine vr_go C nd_Law_1299 ?_
          exact ih _ _ _ _ h
        · have h := no_f hc h
          refine vr_ic C nd_Law_770 ?_
          cases h
      have h := no_f hS153 h
      by_cases hS160 : ((xs (nj_n v3)) &&& (63 : Int32)) = (18 : Int32)
      · have h := no_t hS160 h
        refine vr_tsI (18 : Int32) C nd_Law_33 hS160 (by decide) (by decide) rfl rfl ?_
        refine vr_al C nd_Law_772 rfl ?_
        refine vr_al C nd_Law_773 rfl ?_
        refine vr_il C nd_Law_774 rfl ?_
        refine vr_ic C nd_Law_775 ?_
        refine vr_iadd C nd_Law_776 rfl ?_
        obtain ⟨hN154, h⟩ := no_i h
        refine vr_script C hW nd_Law_777 rfl hN154 ?_
        obtain ⟨w155, hV156, h⟩ := no_b h
        refine vr_cVi (hp' := (rp_Law (w155.2) m)) nj_isX [.int (xs (nj_n (v3 + (1 : Int32))))] [] C nd_Law_778 rfl ml_Law_90 my_Nj_keep (co_Nj_keep s (xs (nj_n (v3 + (1 : Int32)))) w155 hV156) (em_Law_Nj s m) ⟨_, _, _, rfl, rfl, rfl⟩ rfl rfl nj_ro_Nj_keep hkc hks rfl (pa_Law_Nj s m (w155.2)) ?_
        refine vr_al C nd_Law_781 rfl ?_
        refine vr_al C nd_Law_782 rfl ?_
        refine vr_il C nd_Law_783 rfl ?_
        refine vr_ic C nd_Law_784 ?_
        refine vr_iadd C nd_Law_785 rfl ?_
        obtain ⟨hN157, h⟩ := no_i h
        refine vr_script C hW nd_Law_786 rfl hN157 ?_
        obtain ⟨w158, hV159, h⟩ := no_b h
        refine vr_cVi (hp' := (rp_Law (w155.2) (w158.2))) nj_isM [.int (xs (nj_n (v3 + (1 : Int32))))] [.int (w155.1)] C nd_Law_787 rfl ml_Law_93 my_Md_keep (co_Md_keep m (xs (nj_n (v3 + (1 : Int32)))) w158 hV159) (em_Law_Md (w155.2) m) ⟨_, _, _, rfl, rfl, rfl⟩ rfl rfl nj_ro_Md_keep hkc hks rfl (pa_Law_Md (w155.2) m (w158.2)) ?_
        refine vr_cm_eq C nd_Law_790 (fun hc => ?_) (fun hc => ?_)
        · have h := no_t hc h
          refine vr_inc (v := (v3 + (6 : Int32))) (ls' := [some (.ref 2000), some (.ref 0), some (.ref 53), some (.int (v3 + (6 : Int32)))]) C nd_Law_1296 rfl rfl rfl rfl rfl ?_
          refine vr_go C nd_Law_1299 ?_
          exact ih _ _ _ _ h
        · have h := no_f hc h
          refine vr_ic C nd_Law_793 ?_
          cases h
      have h := no_f hS160 h
      by_cases hS167 : ((xs (nj_n v3)) &&& (63 : Int32)) = (19 : Int32)
      · have h := no_t hS167 h
        refine vr_tsI (19 : Int32) C nd_Law_33 hS167 (by decide) (by decide) rfl rfl ?_
        refine vr_al C nd_Law_795 rfl ?_
        refine vr_al C nd_Law_796 rfl ?_
        refine vr_il C nd_Law_797 rfl ?_
        refine vr_ic C nd_Law_798 ?_
        refine vr_iadd C nd_Law_799 rfl ?_
        obtain ⟨hN161, h⟩ := no_i h
        refine vr_script C hW nd_Law_800 rfl hN161 ?_
        obtain ⟨w162, hV163, h⟩ := no_b h
        refine vr_cVi (hp' := (rp_Law (w162.2) m)) nj_isX [.int (xs (nj_n (v3 + (1 : Int32))))] [] C nd_Law_801 rfl ml_Law_94 my_Nj_on (co_Nj_on s (xs (nj_n (v3 + (1 : Int32)))) w162 hV163) (em_Law_Nj s m) ⟨_, _, _, rfl, rfl, rfl⟩ rfl rfl nj_ro_Nj_on hkc hks rfl (pa_Law_Nj s m (w162.2)) ?_
        refine vr_al C nd_Law_804 rfl ?_
        refine vr_al C nd_Law_805 rfl ?_
        refine vr_il C nd_Law_806 rfl ?_
        refine vr_ic C nd_Law_807 ?_
        refine vr_iadd C nd_Law_808 rfl ?_
        obtain ⟨hN164, h⟩ := no_i h
        refine vr_script C hW nd_Law_809 rfl hN164 ?_
        obtain ⟨w165, hV166, h⟩ := no_b h
        refine vr_cVi (hp' := (rp_Law (w162.2) (w165.2))) nj_isM [.int (xs (nj_n (v3 + (1 : Int32))))] [.int (w162.1)] C nd_Law_810 rfl ml_Law_97 my_Md_on (co_Md_on m (xs (nj_n (v3 + (1 : Int32)))) w165 hV166) (em_Law_Md (w162.2) m) ⟨_, _, _, rfl, rfl, rfl⟩ rfl rfl nj_ro_Md_on hkc hks rfl (pa_Law_Md (w162.2) m (w165.2)) ?_
        refine vr_cm_eq C nd_Law_813 (fun hc => ?_) (fun hc => ?_)
        · have h := no_t hc h
          refine vr_inc (v := (v3 + (6 : Int32))) (ls' := [some (.ref 2000), some (.ref 0), some (.ref 53), some (.int (v3 + (6 : Int32)))]) C nd_Law_1296 rfl rfl rfl rfl rfl ?_
          refine vr_go C nd_Law_1299 ?_
          exact ih _ _ _ _ h
        · have h := no_f hc h
          refine vr_ic C nd_Law_816 ?_
          cases h
      have h := no_f hS167 h
      by_cases hS174 : ((xs (nj_n v3)) &&& (63 : Int32)) = (20 : Int32)
      · have h := no_t hS174 h
        refine vr_tsI (20 : Int32) C nd_Law_33 hS174 (by decide) (by decide) rfl rfl ?_
        refine vr_al C nd_Law_818 rfl ?_
        refine vr_al C nd_Law_819 rfl ?_
        refine vr_il C nd_Law_820 rfl ?_
        refine vr_ic C nd_Law_821 ?_
        refine vr_iadd C nd_Law_822 rfl ?_
        obtain ⟨hN168, h⟩ := no_i h
        refine vr_script C hW nd_Law_823 rfl hN168 ?_
        obtain ⟨w169, hV170, h⟩ := no_b h
        refine vr_cVi (hp' := (rp_Law (w169.2) m)) nj_isX [.int (xs (nj_n (v3 + (1 : Int32))))] [] C nd_Law_824 rfl ml_Law_98 my_Nj_yes (co_Nj_yes s (xs (nj_n (v3 + (1 : Int32)))) w169 hV170) (em_Law_Nj s m) ⟨_, _, _, rfl, rfl, rfl⟩ rfl rfl nj_ro_Nj_yes hkc hks rfl (pa_Law_Nj s m (w169.2)) ?_
        refine vr_al C nd_Law_827 rfl ?_
        refine vr_al C nd_Law_828 rfl ?_
        refine vr_il C nd_Law_829 rfl ?_
        refine vr_ic C nd_Law_830 ?_
        refine vr_iadd C nd_Law_831 rfl ?_
        obtain ⟨hN171, h⟩ := no_i h
        refine vr_script C hW nd_Law_832 rfl hN171 ?_
        obtain ⟨w172, hV173, h⟩ := no_b h
        refine vr_cVi (hp' := (rp_Law (w169.2) (w172.2))) nj_isM [.int (xs (nj_n (v3 + (1 : Int32))))] [.int (w169.1)] C nd_Law_833 rfl ml_Law_101 my_Md_yes (co_Md_yes m (xs (nj_n (v3 + (1 : Int32)))) w172 hV173) (em_Law_Md (w169.2) m) ⟨_, _, _, rfl, rfl, rfl⟩ rfl rfl nj_ro_Md_yes hkc hks rfl (pa_Law_Md (w169.2) m (w172.2)) ?_
        refine vr_cm_eq C nd_Law_836 (fun hc => ?_) (fun hc => ?_)
        · have h := no_t hc h
          refine vr_inc (v := (v3 + (6 : Int32))) (ls' := [some (.ref 2000), some (.ref 0), some (.ref 53), some (.int (v3 + (6 : Int32)))]) C nd_Law_1296 rfl rfl rfl rfl rfl ?_
          refine vr_go C nd_Law_1299 ?_
          exact ih _ _ _ _ h
        · have h := no_f hc h
          refine vr_ic C nd_Law_839 ?_
          cases h
      have h := no_f hS174 h
      by_cases hS179 : ((xs (nj_n v3)) &&& (63 : Int32)) = (21 : Int32)
      · have h := no_t hS179 h
        refine vr_tsI (21 : Int32) C nd_Law_33 hS179 (by decide) (by decide) rfl rfl ?_
        refine vr_al C nd_Law_841 rfl ?_
        obtain ⟨w175, hV176, h⟩ := no_b h
        refine vr_cVi (hp' := (rp_Law (w175.2) m)) nj_isX [] [] C nd_Law_842 rfl ml_Law_102 my_Nj_can (co_Nj_can s w175 hV176) (em_Law_Nj s m) ⟨_, _, _, rfl, rfl, rfl⟩ rfl rfl nj_ro_Nj_can hkc hks rfl (pa_Law_Nj s m (w175.2)) ?_
        refine vr_al C nd_Law_845 rfl ?_
        obtain ⟨w177, hV178, h⟩ := no_b h
        refine vr_cVi (hp' := (rp_Law (w175.2) (w177.2))) nj_isM [] [.int (w175.1)] C nd_Law_846 rfl ml_Law_105 my_Md_can (co_Md_can m w177 hV178) (em_Law_Md (w175.2) m) ⟨_, _, _, rfl, rfl, rfl⟩ rfl rfl nj_ro_Md_can hkc hks rfl (pa_Law_Md (w175.2) m (w177.2)) ?_
        refine vr_cm_eq C nd_Law_849 (fun hc => ?_) (fun hc => ?_)
        · have h := no_t hc h
          refine vr_inc (v := (v3 + (6 : Int32))) (ls' := [some (.ref 2000), some (.ref 0), some (.ref 53), some (.int (v3 + (6 : Int32)))]) C nd_Law_1296 rfl rfl rfl rfl rfl ?_
          refine vr_go C nd_Law_1299 ?_
          exact ih _ _ _ _ h
        · have h := no_f hc h
          refine vr_ic C nd_Law_852 ?_
          cases h
      have h := no_f hS179 h
      by_cases hS186 : ((xs (nj_n v3)) &&& (63 : Int32)) = (22 : Int32)
      · have h := no_t hS186 h
        refine vr_tsI (22 : Int32) C nd_Law_33 hS186 (by decide) (by decide) rfl rfl ?_
        refine vr_al C nd_Law_854 rfl ?_
        refine vr_al C nd_Law_855 rfl ?_
        refine vr_il C nd_Law_856 rfl ?_
        refine vr_ic C nd_Law_857 ?_
        refine vr_iadd C nd_Law_858 rfl ?_
        obtain ⟨hN180, h⟩ := no_i h
        refine vr_script C hW nd_Law_859 rfl hN180 ?_
        obtain ⟨w181, hV182, h⟩ := no_b h
        refine vr_cVip nj_isX [.int (xs (nj_n (v3 + (1 : Int32))))] [] C nd_Law_860 rfl ml_Law_106 my_Nj_swing (co_Nj_swing s (xs (nj_n (v3 + (1 : Int32)))) w181 hV182) (em_Law_Nj s m) ⟨_, _, _, rfl, rfl, rfl⟩ rfl rfl nj_ro_Nj_swing hkc hks rfl ?_
        refine vr_al C nd_Law_863 rfl ?_
        refine vr_al C nd_Law_864 rfl ?_
        refine vr_il C nd_Law_865 rfl ?_
        refine vr_ic C nd_Law_866 ?_
        refine vr_iadd C nd_Law_867 rfl ?_
        obtain ⟨hN183, h⟩ := no_i h
        refine vr_script C hW nd_Law_868 rfl hN183 ?_
        obtain ⟨w184, hV185, h⟩ := no_b h
        refine vr_cVi (hp' := (rp_Law s (w184.2))) nj_isM [.int (xs (nj_n (v3 + (1 : Int32))))] [.int w181] C nd_Law_869 rfl ml_Law_109 my_Md_swing (co_Md_swing m (xs (nj_n (v3 + (1 : Int32)))) w184 hV185) (em_Law_Md s m) ⟨_, _, _, rfl, rfl, rfl⟩ rfl rfl nj_ro_Md_swing hkc hks rfl (pa_Law_Md s m (w184.2)) ?_
        refine vr_cm_eq C nd_Law_872 (fun hc => ?_) (fun hc => ?_)
        · have h := no_t hc h
          refine vr_inc (v := (v3 + (6 : Int32))) (ls' := [some (.ref 2000), some (.ref 0), some (.ref 53), some (.int (v3 + (6 : Int32)))]) C nd_Law_1296 rfl rfl rfl rfl rfl ?_
          refine vr_go C nd_Law_1299 ?_
          exact ih _ _ _ _ h
        · have h := no_f hc h
          refine vr_ic C nd_Law_875 ?_
          cases h
      have h := no_f hS186 h
      by_cases hS193 : ((xs (nj_n v3)) &&& (63 : Int32)) = (23 : Int32)
      · have h := no_t hS193 h
        refine vr_tsI (23 : Int32) C nd_Law_33 hS193 (by decide) (by decide) rfl rfl ?_
        refine vr_al C nd_Law_877 rfl ?_
        refine vr_al C nd_Law_878 rfl ?_
        refine vr_il C nd_Law_879 rfl ?_
        refine vr_ic C nd_Law_880 ?_
        refine vr_iadd C nd_Law_881 rfl ?_
        obtain ⟨hN187, h⟩ := no_i h
        refine vr_script C hW nd_Law_882 rfl hN187 ?_
        obtain ⟨w188, hV189, h⟩ := no_b h
        refine vr_cVip nj_isX [.int (xs (nj_n (v3 + (1 : Int32))))] [] C nd_Law_883 rfl ml_Law_110 my_Nj_rules (co_Nj_rules s (xs (nj_n (v3 + (1 : Int32)))) w188 hV189) (em_Law_Nj s m) ⟨_, _, _, rfl, rfl, rfl⟩ rfl rfl nj_ro_Nj_rules hkc hks rfl ?_
        refine vr_al C nd_Law_886 rfl ?_
        refine vr_al C nd_Law_887 rfl ?_
        refine vr_il C nd_Law_888 rfl ?_
        refine vr_ic C nd_Law_889 ?_
        refine vr_iadd C nd_Law_890 rfl ?_
        obtain ⟨hN190, h⟩ := no_i h
        refine vr_script C hW nd_Law_891 rfl hN190 ?_
        obtain ⟨w191, hV192, h⟩ := no_b h
        refine vr_cVip nj_isM [.int (xs (nj_n (v3 + (1 : Int32))))] [.int w188] C nd_Law_892 rfl ml_Law_113 my_Md_rules (co_Md_rules m (xs (nj_n (v3 + (1 : Int32)))) w191 hV192) (em_Law_Md s m) ⟨_, _, _, rfl, rfl, rfl⟩ rfl rfl nj_ro_Md_rules hkc hks rfl ?_
        refine vr_cm_eq C nd_Law_895 (fun hc => ?_) (fun hc => ?_)
        · have h := no_t hc h
          refine vr_inc (v := (v3 + (6 : Int32))) (ls' := [some (.ref 2000), some (.ref 0), some (.ref 53), some (.int (v3 + (6 : Int32)))]) C nd_Law_1296 rfl rfl rfl rfl rfl ?_
          refine vr_go C nd_Law_1299 ?_
          exact ih _ _ _ _ h
        · have h := no_f hc h
          refine vr_ic C nd_Law_898 ?_
          cases h
      have h := no_f hS193 h
      by_cases hS200 : ((xs (nj_n v3)) &&& (63 : Int32)) = (24 : Int32)
      · have h := no_t hS200 h
        refine vr_tsI (24 : Int32) C nd_Law_33 hS200 (by decide) (by decide) rfl rfl ?_
        refine vr_al C nd_Law_900 rfl ?_
        refine vr_al C nd_Law_901 rfl ?_
        refine vr_il C nd_Law_902 rfl ?_
        refine vr_ic C nd_Law_903 ?_
        refine vr_iadd C nd_Law_904 rfl ?_
        obtain ⟨hN194, h⟩ := no_i h
        refine vr_script C hW nd_Law_905 rfl hN194 ?_
        obtain ⟨w195, hV196, h⟩ := no_b h
        refine vr_cVi (hp' := (rp_Law (w195.2) m)) nj_isX [.int (xs (nj_n (v3 + (1 : Int32))))] [] C nd_Law_906 rfl ml_Law_114 my_Nj_longest (co_Nj_longest s (xs (nj_n (v3 + (1 : Int32)))) w195 hV196) (em_Law_Nj s m) ⟨_, _, _, rfl, rfl, rfl⟩ rfl rfl nj_ro_Nj_longest hkc hks rfl (pa_Law_Nj s m (w195.2)) ?_
        refine vr_al C nd_Law_909 rfl ?_
        refine vr_al C nd_Law_910 rfl ?_
        refine vr_il C nd_Law_911 rfl ?_
        refine vr_ic C nd_Law_912 ?_
        refine vr_iadd C nd_Law_913 rfl ?_
        obtain ⟨hN197, h⟩ := no_i h
        refine vr_script C hW nd_Law_914 rfl hN197 ?_
        obtain ⟨w198, hV199, h⟩ := no_b h
        refine vr_cVi (hp' := (rp_Law (w195.2) (w198.2))) nj_isM [.int (xs (nj_n (v3 + (1 : Int32))))] [.int (w195.1)] C nd_Law_915 rfl ml_Law_117 my_Md_longest (co_Md_longest m (xs (nj_n (v3 + (1 : Int32)))) w198 hV199) (em_Law_Md (w195.2) m) ⟨_, _, _, rfl, rfl, rfl⟩ rfl rfl nj_ro_Md_longest hkc hks rfl (pa_Law_Md (w195.2) m (w198.2)) ?_
        refine vr_cm_eq C nd_Law_918 (fun hc => ?_) (fun hc => ?_)
        · have h := no_t hc h
          refine vr_inc (v := (v3 + (6 : Int32))) (ls' := [some (.ref 2000), some (.ref 0), some (.ref 53), some (.int (v3 + (6 : Int32)))]) C nd_Law_1296 rfl rfl rfl rfl rfl ?_
          refine vr_go C nd_Law_1299 ?_
          exact ih _ _ _ _ h
        · have h := no_f hc h
          refine vr_ic C nd_Law_921 ?_
          cases h
      have h := no_f hS200 h
      by_cases hS207 : ((xs (nj_n v3)) &&& (63 : Int32)) = (25 : Int32)
      · have h := no_t hS207 h
        refine vr_tsI (25 : Int32) C nd_Law_33 hS207 (by decide) (by decide) rfl rfl ?_
        refine vr_al C nd_Law_923 rfl ?_
        refine vr_al C nd_Law_924 rfl ?_
        refine vr_il C nd_Law_925 rfl ?_
        refine vr_ic C nd_Law_926 ?_
        refine vr_iadd C nd_Law_927 rfl ?_
        obtain ⟨hN201, h⟩ := no_i h
        refine vr_script C hW nd_Law_928 rfl hN201 ?_
        obtain ⟨w202, hV203, h⟩ := no_b h
        refine vr_cVi (hp' := (rp_Law (w202.2) m)) nj_isX [.int (xs (nj_n (v3 + (1 : Int32))))] [] C nd_Law_929 rfl ml_Law_118 my_Nj_ways (co_Nj_ways s (xs (nj_n (v3 + (1 : Int32)))) w202 hV203) (em_Law_Nj s m) ⟨_, _, _, rfl, rfl, rfl⟩ rfl rfl nj_ro_Nj_ways hkc hks rfl (pa_Law_Nj s m (w202.2)) ?_
        refine vr_al C nd_Law_932 rfl ?_
        refine vr_al C nd_Law_933 rfl ?_
        refine vr_il C nd_Law_934 rfl ?_
        refine vr_ic C nd_Law_935 ?_
        refine vr_iadd C nd_Law_936 rfl ?_
        obtain ⟨hN204, h⟩ := no_i h
        refine vr_script C hW nd_Law_937 rfl hN204 ?_
        obtain ⟨w205, hV206, h⟩ := no_b h
        refine vr_cVi (hp' := (rp_Law (w202.2) (w205.2))) nj_isM [.int (xs (nj_n (v3 + (1 : Int32))))] [.int (w202.1)] C nd_Law_938 rfl ml_Law_121 my_Md_ways (co_Md_ways m (xs (nj_n (v3 + (1 : Int32)))) w205 hV206) (em_Law_Md (w202.2) m) ⟨_, _, _, rfl, rfl, rfl⟩ rfl rfl nj_ro_Md_ways hkc hks rfl (pa_Law_Md (w202.2) m (w205.2)) ?_
        refine vr_cm_eq C nd_Law_941 (fun hc => ?_) (fun hc => ?_)
        · have h := no_t hc h
          refine vr_inc (v := (v3 + (6 : Int32))) (ls' := [some (.ref 2000), some (.ref 0), some (.ref 53), some (.int (v3 + (6 : Int32)))]) C nd_Law_1296 rfl rfl rfl rfl rfl ?_
          refine vr_go C nd_Law_1299 ?_
          exact ih _ _ _ _ h
        · have h := no_f hc h
          refine vr_ic C nd_Law_944 ?_
          cases h
      have h := no_f hS207 h
      by_cases hS212 : ((xs (nj_n v3)) &&& (63 : Int32)) = (26 : Int32)
      · have h := no_t hS212 h
        refine vr_tsI (26 : Int32) C nd_Law_33 hS212 (by decide) (by decide) rfl rfl ?_
        refine vr_al C nd_Law_946 rfl ?_
        obtain ⟨w208, hV209, h⟩ := no_b h
        refine vr_cVi (hp' := (rp_Law (w208.2) m)) nj_isX [] [] C nd_Law_947 rfl ml_Law_122 my_Nj_alone (co_Nj_alone s w208 hV209) (em_Law_Nj s m) ⟨_, _, _, rfl, rfl, rfl⟩ rfl rfl nj_ro_Nj_alone hkc hks rfl (pa_Law_Nj s m (w208.2)) ?_
        refine vr_al C nd_Law_950 rfl ?_
        obtain ⟨w210, hV211, h⟩ := no_b h
        refine vr_cVi (hp' := (rp_Law (w208.2) (w210.2))) nj_isM [] [.int (w208.1)] C nd_Law_951 rfl ml_Law_125 my_Md_alone (co_Md_alone m w210 hV211) (em_Law_Md (w208.2) m) ⟨_, _, _, rfl, rfl, rfl⟩ rfl rfl nj_ro_Md_alone hkc hks rfl (pa_Law_Md (w208.2) m (w210.2)) ?_
        refine vr_cm_eq C nd_Law_954 (fun hc => ?_) (fun hc => ?_)
        · have h := no_t hc h
          refine vr_inc (v := (v3 + (6 : Int32))) (ls' := [some (.ref 2000), some (.ref 0), some (.ref 53), some (.int (v3 + (6 : Int32)))]) C nd_Law_1296 rfl rfl rfl rfl rfl ?_
          refine vr_go C nd_Law_1299 ?_
          exact ih _ _ _ _ h
        · have h := no_f hc h
          refine vr_ic C nd_Law_957 ?_
          cases h
      have h := no_f hS212 h
      by_cases hS217 : ((xs (nj_n v3)) &&& (63 : Int32)) = (27 : Int32)
      · have h := no_t hS217 h
        refine vr_tsI (27 : Int32) C nd_Law_33 hS217 (by decide) (by decide) rfl rfl ?_
        refine vr_al C nd_Law_959 rfl ?_
        obtain ⟨w213, hV214, h⟩ := no_b h
        refine vr_cVi (hp' := (rp_Law (w213.2) m)) nj_isX [] [] C nd_Law_960 rfl ml_Law_126 my_Nj_stands (co_Nj_stands s w213 hV214) (em_Law_Nj s m) ⟨_, _, _, rfl, rfl, rfl⟩ rfl rfl nj_ro_Nj_stands hkc hks rfl (pa_Law_Nj s m (w213.2)) ?_
        refine vr_al C nd_Law_963 rfl ?_
        obtain ⟨w215, hV216, h⟩ := no_b h
        refine vr_cVi (hp' := (rp_Law (w213.2) (w215.2))) nj_isM [] [.int (w213.1)] C nd_Law_964 rfl ml_Law_129 my_Md_stands (co_Md_stands m w215 hV216) (em_Law_Md (w213.2) m) ⟨_, _, _, rfl, rfl, rfl⟩ rfl rfl nj_ro_Md_stands hkc hks rfl (pa_Law_Md (w213.2) m (w215.2)) ?_
        refine vr_cm_eq C nd_Law_967 (fun hc => ?_) (fun hc => ?_)
        · have h := no_t hc h
          refine vr_inc (v := (v3 + (6 : Int32))) (ls' := [some (.ref 2000), some (.ref 0), some (.ref 53), some (.int (v3 + (6 : Int32)))]) C nd_Law_1296 rfl rfl rfl rfl rfl ?_
          refine vr_go C nd_Law_1299 ?_
          exact ih _ _ _ _ h
        · have h := no_f hc h
          refine vr_ic C nd_Law_970 ?_
          cases h
      have h := no_f hS217 h
      by_cases hS224 : ((xs (nj_n v3)) &&& (63 : Int32)) = (28 : Int32)
      · have h := no_t hS224 h
        refine vr_tsI (28 : Int32) C nd_Law_33 hS224 (by decide) (by decide) rfl rfl ?_
        refine vr_al C nd_Law_972 rfl ?_
        refine vr_al C nd_Law_973 rfl ?_
        refine vr_il C nd_Law_974 rfl ?_
        refine vr_ic C nd_Law_975 ?_
        refine vr_iadd C nd_Law_976 rfl ?_
        obtain ⟨hN218, h⟩ := no_i h
        refine vr_script C hW nd_Law_977 rfl hN218 ?_
        obtain ⟨w219, hV220, h⟩ := no_b h
        refine vr_cVi (hp' := (rp_Law (w219.2) m)) nj_isX [.int (xs (nj_n (v3 + (1 : Int32))))] [] C nd_Law_978 rfl ml_Law_130 my_Nj_run (co_Nj_run s (xs (nj_n (v3 + (1 : Int32)))) w219 hV220) (em_Law_Nj s m) ⟨_, _, _, rfl, rfl, rfl⟩ rfl rfl nj_ro_Nj_run hkc hks rfl (pa_Law_Nj s m (w219.2)) ?_
        refine vr_al C nd_Law_981 rfl ?_
        refine vr_al C nd_Law_982 rfl ?_
        refine vr_il C nd_Law_983 rfl ?_
        refine vr_ic C nd_Law_984 ?_
        refine vr_iadd C nd_Law_985 rfl ?_
        obtain ⟨hN221, h⟩ := no_i h
        refine vr_script C hW nd_Law_986 rfl hN221 ?_
        obtain ⟨w222, hV223, h⟩ := no_b h
        refine vr_cVi (hp' := (rp_Law (w219.2) (w222.2))) nj_isM [.int (xs (nj_n (v3 + (1 : Int32))))] [.int (w219.1)] C nd_Law_987 rfl ml_Law_133 my_Md_run (co_Md_run m (xs (nj_n (v3 + (1 : Int32)))) w222 hV223) (em_Law_Md (w219.2) m) ⟨_, _, _, rfl, rfl, rfl⟩ rfl rfl nj_ro_Md_run hkc hks rfl (pa_Law_Md (w219.2) m (w222.2)) ?_
        refine vr_cm_eq C nd_Law_990 (fun hc => ?_) (fun hc => ?_)
        · have h := no_t hc h
          refine vr_inc (v := (v3 + (6 : Int32))) (ls' := [some (.ref 2000), some (.ref 0), some (.ref 53), some (.int (v3 + (6 : Int32)))]) C nd_Law_1296 rfl rfl rfl rfl rfl ?_
          refine vr_go C nd_Law_1299 ?_
          exact ih _ _ _ _ h
        · have h := no_f hc h
          refine vr_ic C nd_Law_993 ?_
          cases h
      have h := no_f hS224 h
      by_cases hS229 : ((xs (nj_n v3)) &&& (63 : Int32)) = (29 : Int32)
      · have h := no_t hS229 h
        refine vr_tsI (29 : Int32) C nd_Law_33 hS229 (by decide) (by decide) rfl rfl ?_
        refine vr_al C nd_Law_995 rfl ?_
        obtain ⟨w225, hV226, h⟩ := no_b h
        refine vr_cVi (hp' := (rp_Law (w225.2) m)) nj_isX [] [] C nd_Law_996 rfl ml_Law_134 my_Nj_splits (co_Nj_splits s w225 hV226) (em_Law_Nj s m) ⟨_, _, _, rfl, rfl, rfl⟩ rfl rfl nj_ro_Nj_splits hkc hks rfl (pa_Law_Nj s m (w225.2)) ?_
        refine vr_al C nd_Law_999 rfl ?_
        obtain ⟨w227, hV228, h⟩ := no_b h
        refine vr_cVi (hp' := (rp_Law (w225.2) (w227.2))) nj_isM [] [.int (w225.1)] C nd_Law_1000 rfl ml_Law_137 my_Md_splits (co_Md_splits m w227 hV228) (em_Law_Md (w225.2) m) ⟨_, _, _, rfl, rfl, rfl⟩ rfl rfl nj_ro_Md_splits hkc hks rfl (pa_Law_Md (w225.2) m (w227.2)) ?_
        refine vr_cm_eq C nd_Law_1003 (fun hc => ?_) (fun hc => ?_)
        · have h := no_t hc h
          refine vr_inc (v := (v3 + (6 : Int32))) (ls' := [some (.ref 2000), some (.ref 0), some (.ref 53), some (.int (v3 + (6 : Int32)))]) C nd_Law_1296 rfl rfl rfl rfl rfl ?_
          refine vr_go C nd_Law_1299 ?_
          exact ih _ _ _ _ h
        · have h := no_f hc h
          refine vr_ic C nd_Law_1006 ?_
          cases h
      have h := no_f hS229 h
      by_cases hS234 : ((xs (nj_n v3)) &&& (63 : Int32)) = (30 : Int32)
      · have h := no_t hS234 h
        refine vr_tsI (30 : Int32) C nd_Law_33 hS234 (by decide) (by decide) rfl rfl ?_
        refine vr_al C nd_Law_1008 rfl ?_
        obtain ⟨w230, hV231, h⟩ := no_b h
        refine vr_cVi (hp' := (rp_Law (w230.2) m)) nj_isX [] [] C nd_Law_1009 rfl ml_Law_138 my_Nj_peace (co_Nj_peace s w230 hV231) (em_Law_Nj s m) ⟨_, _, _, rfl, rfl, rfl⟩ rfl rfl nj_ro_Nj_peace hkc hks rfl (pa_Law_Nj s m (w230.2)) ?_
        refine vr_al C nd_Law_1012 rfl ?_
        obtain ⟨w232, hV233, h⟩ := no_b h
        refine vr_cVi (hp' := (rp_Law (w230.2) (w232.2))) nj_isM [] [.int (w230.1)] C nd_Law_1013 rfl ml_Law_141 my_Md_peace (co_Md_peace m w232 hV233) (em_Law_Md (w230.2) m) ⟨_, _, _, rfl, rfl, rfl⟩ rfl rfl nj_ro_Md_peace hkc hks rfl (pa_Law_Md (w230.2) m (w232.2)) ?_
        refine vr_cm_eq C nd_Law_1016 (fun hc => ?_) (fun hc => ?_)
        · have h := no_t hc h
          refine vr_inc (v := (v3 + (6 : Int32))) (ls' := [some (.ref 2000), some (.ref 0), some (.ref 53), some (.int (v3 + (6 : Int32)))]) C nd_Law_1296 rfl rfl rfl rfl rfl ?_
          refine vr_go C nd_Law_1299 ?_
          exact ih _ _ _ _ h
        · have h := no_f hc h
          refine vr_ic C nd_Law_1019 ?_
          cases h
      have h := no_f hS234 h
      by_cases hS241 : ((xs (nj_n v3)) &&& (63 : Int32)) = (31 : Int32)
      · have h := no_t hS241 h
        refine vr_tsI (31 : Int32) C nd_Law_33 hS241 (by decide) (by decide) rfl rfl ?_
        refine vr_al C nd_Law_1021 rfl ?_
        refine vr_al C nd_Law_1022 rfl ?_
        refine vr_il C nd_Law_1023 rfl ?_
        refine vr_ic C nd_Law_1024 ?_
        refine vr_iadd C nd_Law_1025 rfl ?_
        obtain ⟨hN235, h⟩ := no_i h
        refine vr_script C hW nd_Law_1026 rfl hN235 ?_
        obtain ⟨w236, hV237, h⟩ := no_b h
        refine vr_cVi (hp' := (rp_Law (w236.2) m)) nj_isX [.int (xs (nj_n (v3 + (1 : Int32))))] [] C nd_Law_1027 rfl ml_Law_142 my_Nj_power (co_Nj_power s (xs (nj_n (v3 + (1 : Int32)))) w236 hV237) (em_Law_Nj s m) ⟨_, _, _, rfl, rfl, rfl⟩ rfl rfl nj_ro_Nj_power hkc hks rfl (pa_Law_Nj s m (w236.2)) ?_
        refine vr_al C nd_Law_1030 rfl ?_
        refine vr_al C nd_Law_1031 rfl ?_
        refine vr_il C nd_Law_1032 rfl ?_
        refine vr_ic C nd_Law_1033 ?_
        refine vr_iadd C nd_Law_1034 rfl ?_
        obtain ⟨hN238, h⟩ := no_i h
        refine vr_script C hW nd_Law_1035 rfl hN238 ?_
        obtain ⟨w239, hV240, h⟩ := no_b h
        refine vr_cVi (hp' := (rp_Law (w236.2) (w239.2))) nj_isM [.int (xs (nj_n (v3 + (1 : Int32))))] [.int (w236.1)] C nd_Law_1036 rfl ml_Law_145 my_Md_power (co_Md_power m (xs (nj_n (v3 + (1 : Int32)))) w239 hV240) (em_Law_Md (w236.2) m) ⟨_, _, _, rfl, rfl, rfl⟩ rfl rfl nj_ro_Md_power hkc hks rfl (pa_Law_Md (w236.2) m (w239.2)) ?_
        refine vr_cm_eq C nd_Law_1039 (fun hc => ?_) (fun hc => ?_)
        · have h := no_t hc h
          refine vr_inc (v := (v3 + (6 : Int32))) (ls' := [some (.ref 2000), some (.ref 0), some (.ref 53), some (.int (v3 + (6 : Int32)))]) C nd_Law_1296 rfl rfl rfl rfl rfl ?_
          refine vr_go C nd_Law_1299 ?_
          exact ih _ _ _ _ h
        · have h := no_f hc h
          refine vr_ic C nd_Law_1042 ?_
          cases h
      have h := no_f hS241 h
      by_cases hS248 : ((xs (nj_n v3)) &&& (63 : Int32)) = (32 : Int32)
      · have h := no_t hS248 h
        refine vr_tsI (32 : Int32) C nd_Law_33 hS248 (by decide) (by decide) rfl rfl ?_
        refine vr_al C nd_Law_1044 rfl ?_
        refine vr_al C nd_Law_1045 rfl ?_
        refine vr_il C nd_Law_1046 rfl ?_
        refine vr_ic C nd_Law_1047 ?_
        refine vr_iadd C nd_Law_1048 rfl ?_
        obtain ⟨hN242, h⟩ := no_i h
        refine vr_script C hW nd_Law_1049 rfl hN242 ?_
        obtain ⟨w243, hV244, h⟩ := no_b h
        refine vr_cVi (hp' := (rp_Law (w243.2) m)) nj_isX [.int (xs (nj_n (v3 + (1 : Int32))))] [] C nd_Law_1050 rfl ml_Law_146 my_Nj_share (co_Nj_share s (xs (nj_n (v3 + (1 : Int32)))) w243 hV244) (em_Law_Nj s m) ⟨_, _, _, rfl, rfl, rfl⟩ rfl rfl nj_ro_Nj_share hkc hks rfl (pa_Law_Nj s m (w243.2)) ?_
        refine vr_al C nd_Law_1053 rfl ?_
        refine vr_al C nd_Law_1054 rfl ?_
        refine vr_il C nd_Law_1055 rfl ?_
        refine vr_ic C nd_Law_1056 ?_
        refine vr_iadd C nd_Law_1057 rfl ?_
        obtain ⟨hN245, h⟩ := no_i h
        refine vr_script C hW nd_Law_1058 rfl hN245 ?_
        obtain ⟨w246, hV247, h⟩ := no_b h
        refine vr_cVi (hp' := (rp_Law (w243.2) (w246.2))) nj_isM [.int (xs (nj_n (v3 + (1 : Int32))))] [.int (w243.1)] C nd_Law_1059 rfl ml_Law_149 my_Md_share (co_Md_share m (xs (nj_n (v3 + (1 : Int32)))) w246 hV247) (em_Law_Md (w243.2) m) ⟨_, _, _, rfl, rfl, rfl⟩ rfl rfl nj_ro_Md_share hkc hks rfl (pa_Law_Md (w243.2) m (w246.2)) ?_
        refine vr_cm_eq C nd_Law_1062 (fun hc => ?_) (fun hc => ?_)
        · have h := no_t hc h
          refine vr_inc (v := (v3 + (6 : Int32))) (ls' := [some (.ref 2000), some (.ref 0), some (.ref 53), some (.int (v3 + (6 : Int32)))]) C nd_Law_1296 rfl rfl rfl rfl rfl ?_
          refine vr_go C nd_Law_1299 ?_
          exact ih _ _ _ _ h
        · have h := no_f hc h
          refine vr_ic C nd_Law_1065 ?_
          cases h
      have h := no_f hS248 h
      by_cases hS253 : ((xs (nj_n v3)) &&& (63 : Int32)) = (33 : Int32)
      · have h := no_t hS253 h
        refine vr_tsI (33 : Int32) C nd_Law_33 hS253 (by decide) (by decide) rfl rfl ?_
        refine vr_al C nd_Law_1067 rfl ?_
        obtain ⟨w249, hV250, h⟩ := no_b h
        refine vr_cVip nj_isX [] [] C nd_Law_1068 rfl ml_Law_150 my_Nj_secrets (co_Nj_secrets s w249 hV250) (em_Law_Nj s m) ⟨_, _, _, rfl, rfl, rfl⟩ rfl rfl nj_ro_Nj_secrets hkc hks rfl ?_
        refine vr_al C nd_Law_1071 rfl ?_
        obtain ⟨w251, hV252, h⟩ := no_b h
        refine vr_cVip nj_isM [] [.int w249] C nd_Law_1072 rfl ml_Law_153 my_Md_secrets (co_Md_secrets m w251 hV252) (em_Law_Md s m) ⟨_, _, _, rfl, rfl, rfl⟩ rfl rfl nj_ro_Md_secrets hkc hks rfl ?_
        refine vr_cm_eq C nd_Law_1075 (fun hc => ?_) (fun hc => ?_)
        · have h := no_t hc h
          refine vr_inc (v := (v3 + (6 : Int32))) (ls' := [some (.ref 2000), some (.ref 0), some (.ref 53), some (.int (v3 + (6 : Int32)))]) C nd_Law_1296 rfl rfl rfl rfl rfl ?_
          refine vr_go C nd_Law_1299 ?_
          exact ih _ _ _ _ h
        · have h := no_f hc h
          refine vr_ic C nd_Law_1078 ?_
          cases h
      have h := no_f hS253 h
      by_cases hS260 : ((xs (nj_n v3)) &&& (63 : Int32)) = (34 : Int32)
      · have h := no_t hS260 h
        refine vr_tsI (34 : Int32) C nd_Law_33 hS260 (by decide) (by decide) rfl rfl ?_
        refine vr_al C nd_Law_1080 rfl ?_
        refine vr_al C nd_Law_1081 rfl ?_
        refine vr_il C nd_Law_1082 rfl ?_
        refine vr_ic C nd_Law_1083 ?_
        refine vr_iadd C nd_Law_1084 rfl ?_
        obtain ⟨hN254, h⟩ := no_i h
        refine vr_script C hW nd_Law_1085 rfl hN254 ?_
        obtain ⟨w255, hV256, h⟩ := no_b h
        refine vr_cVi (hp' := (rp_Law (w255.2) m)) nj_isX [.int (xs (nj_n (v3 + (1 : Int32))))] [] C nd_Law_1086 rfl ml_Law_154 my_Nj_told (co_Nj_told s (xs (nj_n (v3 + (1 : Int32)))) w255 hV256) (em_Law_Nj s m) ⟨_, _, _, rfl, rfl, rfl⟩ rfl rfl nj_ro_Nj_told hkc hks rfl (pa_Law_Nj s m (w255.2)) ?_
        refine vr_al C nd_Law_1089 rfl ?_
        refine vr_al C nd_Law_1090 rfl ?_
        refine vr_il C nd_Law_1091 rfl ?_
        refine vr_ic C nd_Law_1092 ?_
        refine vr_iadd C nd_Law_1093 rfl ?_
        obtain ⟨hN257, h⟩ := no_i h
        refine vr_script C hW nd_Law_1094 rfl hN257 ?_
        obtain ⟨w258, hV259, h⟩ := no_b h
        refine vr_cVi (hp' := (rp_Law (w255.2) (w258.2))) nj_isM [.int (xs (nj_n (v3 + (1 : Int32))))] [.int (w255.1)] C nd_Law_1095 rfl ml_Law_157 my_Md_told (co_Md_told m (xs (nj_n (v3 + (1 : Int32)))) w258 hV259) (em_Law_Md (w255.2) m) ⟨_, _, _, rfl, rfl, rfl⟩ rfl rfl nj_ro_Md_told hkc hks rfl (pa_Law_Md (w255.2) m (w258.2)) ?_
        refine vr_cm_eq C nd_Law_1098 (fun hc => ?_) (fun hc => ?_)
        · have h := no_t hc h
          refine vr_inc (v := (v3 + (6 : Int32))) (ls' := [some (.ref 2000), some (.ref 0), some (.ref 53), some (.int (v3 + (6 : Int32)))]) C nd_Law_1296 rfl rfl rfl rfl rfl ?_
          refine vr_go C nd_Law_1299 ?_
          exact ih _ _ _ _ h
        · have h := no_f hc h
          refine vr_ic C nd_Law_1101 ?_
          cases h
      have h := no_f hS260 h
      by_cases hS267 : ((xs (nj_n v3)) &&& (63 : Int32)) = (35 : Int32)
      · have h := no_t hS267 h
        refine vr_tsI (35 : Int32) C nd_Law_33 hS267 (by decide) (by decide) rfl rfl ?_
        refine vr_al C nd_Law_1103 rfl ?_
        refine vr_al C nd_Law_1104 rfl ?_
        refine vr_il C nd_Law_1105 rfl ?_
        refine vr_ic C nd_Law_1106 ?_
        refine vr_iadd C nd_Law_1107 rfl ?_
        obtain ⟨hN261, h⟩ := no_i h
        refine vr_script C hW nd_Law_1108 rfl hN261 ?_
        obtain ⟨w262, hV263, h⟩ := no_b h
        refine vr_cVi (hp' := (rp_Law (w262.2) m)) nj_isX [.int (xs (nj_n (v3 + (1 : Int32))))] [] C nd_Law_1109 rfl ml_Law_158 my_Nj_minutes (co_Nj_minutes s (xs (nj_n (v3 + (1 : Int32)))) w262 hV263) (em_Law_Nj s m) ⟨_, _, _, rfl, rfl, rfl⟩ rfl rfl nj_ro_Nj_minutes hkc hks rfl (pa_Law_Nj s m (w262.2)) ?_
        refine vr_al C nd_Law_1112 rfl ?_
        refine vr_al C nd_Law_1113 rfl ?_
        refine vr_il C nd_Law_1114 rfl ?_
        refine vr_ic C nd_Law_1115 ?_
        refine vr_iadd C nd_Law_1116 rfl ?_
        obtain ⟨hN264, h⟩ := no_i h
        refine vr_script C hW nd_Law_1117 rfl hN264 ?_
        obtain ⟨w265, hV266, h⟩ := no_b h
        refine vr_cVi (hp' := (rp_Law (w262.2) (w265.2))) nj_isM [.int (xs (nj_n (v3 + (1 : Int32))))] [.int (w262.1)] C nd_Law_1118 rfl ml_Law_161 my_Md_minutes (co_Md_minutes m (xs (nj_n (v3 + (1 : Int32)))) w265 hV266) (em_Law_Md (w262.2) m) ⟨_, _, _, rfl, rfl, rfl⟩ rfl rfl nj_ro_Md_minutes hkc hks rfl (pa_Law_Md (w262.2) m (w265.2)) ?_
        refine vr_cm_eq C nd_Law_1121 (fun hc => ?_) (fun hc => ?_)
        · have h := no_t hc h
          refine vr_inc (v := (v3 + (6 : Int32))) (ls' := [some (.ref 2000), some (.ref 0), some (.ref 53), some (.int (v3 + (6 : Int32)))]) C nd_Law_1296 rfl rfl rfl rfl rfl ?_
          refine vr_go C nd_Law_1299 ?_
          exact ih _ _ _ _ h
        · have h := no_f hc h
          refine vr_ic C nd_Law_1124 ?_
          cases h
      have h := no_f hS267 h
      by_cases hS274 : ((xs (nj_n v3)) &&& (63 : Int32)) = (36 : Int32)
      · have h := no_t hS274 h
        refine vr_tsI (36 : Int32) C nd_Law_33 hS274 (by decide) (by decide) rfl rfl ?_
        refine vr_al C nd_Law_1126 rfl ?_
        refine vr_al C nd_Law_1127 rfl ?_
        refine vr_il C nd_Law_1128 rfl ?_
        refine vr_ic C nd_Law_1129 ?_
        refine vr_iadd C nd_Law_1130 rfl ?_
        obtain ⟨hN268, h⟩ := no_i h
        refine vr_script C hW nd_Law_1131 rfl hN268 ?_
        obtain ⟨w269, hV270, h⟩ := no_b h
        refine vr_cVi (hp' := (rp_Law (w269.2) m)) nj_isX [.int (xs (nj_n (v3 + (1 : Int32))))] [] C nd_Law_1132 rfl ml_Law_162 my_Nj_odds (co_Nj_odds s (xs (nj_n (v3 + (1 : Int32)))) w269 hV270) (em_Law_Nj s m) ⟨_, _, _, rfl, rfl, rfl⟩ rfl rfl nj_ro_Nj_odds hkc hks rfl (pa_Law_Nj s m (w269.2)) ?_
        refine vr_al C nd_Law_1135 rfl ?_
        refine vr_al C nd_Law_1136 rfl ?_
        refine vr_il C nd_Law_1137 rfl ?_
        refine vr_ic C nd_Law_1138 ?_
        refine vr_iadd C nd_Law_1139 rfl ?_
        obtain ⟨hN271, h⟩ := no_i h
        refine vr_script C hW nd_Law_1140 rfl hN271 ?_
        obtain ⟨w272, hV273, h⟩ := no_b h
        refine vr_cVi (hp' := (rp_Law (w269.2) (w272.2))) nj_isM [.int (xs (nj_n (v3 + (1 : Int32))))] [.int (w269.1)] C nd_Law_1141 rfl ml_Law_165 my_Md_odds (co_Md_odds m (xs (nj_n (v3 + (1 : Int32)))) w272 hV273) (em_Law_Md (w269.2) m) ⟨_, _, _, rfl, rfl, rfl⟩ rfl rfl nj_ro_Md_odds hkc hks rfl (pa_Law_Md (w269.2) m (w272.2)) ?_
        refine vr_cm_eq C nd_Law_1144 (fun hc => ?_) (fun hc => ?_)
        · have h := no_t hc h
          refine vr_inc (v := (v3 + (6 : Int32))) (ls' := [some (.ref 2000), some (.ref 0), some (.ref 53), some (.int (v3 + (6 : Int32)))]) C nd_Law_1296 rfl rfl rfl rfl rfl ?_
          refine vr_go C nd_Law_1299 ?_
          exact ih _ _ _ _ h
        · have h := no_f hc h
          refine vr_ic C nd_Law_1147 ?_
          cases h
      have h := no_f hS274 h
      by_cases hS283 : ((xs (nj_n v3)) &&& (63 : Int32)) = (37 : Int32)
      · have h := no_t hS283 h
        refine vr_tsI (37 : Int32) C nd_Law_33 hS283 (by decide) (by decide) rfl rfl ?_
        refine vr_al C nd_Law_1149 rfl ?_
        refine vr_al C nd_Law_1150 rfl ?_
        refine vr_il C nd_Law_1151 rfl ?_
        refine vr_ic C nd_Law_1152 ?_
        refine vr_iadd C nd_Law_1153 rfl ?_
        obtain ⟨hN275, h⟩ := no_i h
        refine vr_script C hW nd_Law_1154 rfl hN275 ?_
        refine vr_al C nd_Law_1155 rfl ?_
        refine vr_il C nd_Law_1156 rfl ?_
        refine vr_ic C nd_Law_1157 ?_
        refine vr_iadd C nd_Law_1158 rfl ?_
        obtain ⟨hN276, h⟩ := no_i h
        refine vr_script C hW nd_Law_1159 rfl hN276 ?_
        obtain ⟨w277, hV278, h⟩ := no_b h
        refine vr_cVi (hp' := (rp_Law (w277.2) m)) nj_isX [.int (xs (nj_n (v3 + (1 : Int32)))), .int (xs (nj_n (v3 + (2 : Int32))))] [] C nd_Law_1160 rfl ml_Law_166 my_Nj_lots (co_Nj_lots s (xs (nj_n (v3 + (1 : Int32)))) (xs (nj_n (v3 + (2 : Int32)))) w277 hV278) (em_Law_Nj s m) ⟨_, _, _, rfl, rfl, rfl⟩ rfl rfl nj_ro_Nj_lots hkc hks rfl (pa_Law_Nj s m (w277.2)) ?_
        refine vr_al C nd_Law_1163 rfl ?_
        refine vr_al C nd_Law_1164 rfl ?_
        refine vr_il C nd_Law_1165 rfl ?_
        refine vr_ic C nd_Law_1166 ?_
        refine vr_iadd C nd_Law_1167 rfl ?_
        obtain ⟨hN279, h⟩ := no_i h
        refine vr_script C hW nd_Law_1168 rfl hN279 ?_
        refine vr_al C nd_Law_1169 rfl ?_
        refine vr_il C nd_Law_1170 rfl ?_
        refine vr_ic C nd_Law_1171 ?_
        refine vr_iadd C nd_Law_1172 rfl ?_
        obtain ⟨hN280, h⟩ := no_i h
        refine vr_script C hW nd_Law_1173 rfl hN280 ?_
        obtain ⟨w281, hV282, h⟩ := no_b h
        refine vr_cVi (hp' := (rp_Law (w277.2) (w281.2))) nj_isM [.int (xs (nj_n (v3 + (1 : Int32)))), .int (xs (nj_n (v3 + (2 : Int32))))] [.int (w277.1)] C nd_Law_1174 rfl ml_Law_169 my_Md_lots (co_Md_lots m (xs (nj_n (v3 + (1 : Int32)))) (xs (nj_n (v3 + (2 : Int32)))) w281 hV282) (em_Law_Md (w277.2) m) ⟨_, _, _, rfl, rfl, rfl⟩ rfl rfl nj_ro_Md_lots hkc hks rfl (pa_Law_Md (w277.2) m (w281.2)) ?_
        refine vr_cm_eq C nd_Law_1177 (fun hc => ?_) (fun hc => ?_)
        · have h := no_t hc h
          refine vr_inc (v := (v3 + (6 : Int32))) (ls' := [some (.ref 2000), some (.ref 0), some (.ref 53), some (.int (v3 + (6 : Int32)))]) C nd_Law_1296 rfl rfl rfl rfl rfl ?_
          refine vr_go C nd_Law_1299 ?_
          exact ih _ _ _ _ h
        · have h := no_f hc h
          refine vr_ic C nd_Law_1180 ?_
          cases h
      have h := no_f hS283 h
      by_cases hS288 : ((xs (nj_n v3)) &&& (63 : Int32)) = (38 : Int32)
      · have h := no_t hS288 h
        refine vr_tsI (38 : Int32) C nd_Law_33 hS288 (by decide) (by decide) rfl rfl ?_
        refine vr_al C nd_Law_1182 rfl ?_
        obtain ⟨w284, hV285, h⟩ := no_b h
        refine vr_cVip nj_isX [] [] C nd_Law_1183 rfl ml_Law_170 my_Nj_asked (co_Nj_asked s w284 hV285) (em_Law_Nj s m) ⟨_, _, _, rfl, rfl, rfl⟩ rfl rfl nj_ro_Nj_asked hkc hks rfl ?_
        refine vr_al C nd_Law_1186 rfl ?_
        obtain ⟨w286, hV287, h⟩ := no_b h
        refine vr_cVip nj_isM [] [.int w284] C nd_Law_1187 rfl ml_Law_173 my_Md_asked (co_Md_asked m w286 hV287) (em_Law_Md s m) ⟨_, _, _, rfl, rfl, rfl⟩ rfl rfl nj_ro_Md_asked hkc hks rfl ?_
        refine vr_cm_eq C nd_Law_1190 (fun hc => ?_) (fun hc => ?_)
        · have h := no_t hc h
          refine vr_inc (v := (v3 + (6 : Int32))) (ls' := [some (.ref 2000), some (.ref 0), some (.ref 53), some (.int (v3 + (6 : Int32)))]) C nd_Law_1296 rfl rfl rfl rfl rfl ?_
          refine vr_go C nd_Law_1299 ?_
          exact ih _ _ _ _ h
        · have h := no_f hc h
          refine vr_ic C nd_Law_1193 ?_
          cases h
      have h := no_f hS288 h
      by_cases hS293 : ((xs (nj_n v3)) &&& (63 : Int32)) = (39 : Int32)
      · have h := no_t hS293 h
        refine vr_tsI (39 : Int32) C nd_Law_33 hS293 (by decide) (by decide) rfl rfl ?_
        refine vr_al C nd_Law_1195 rfl ?_
        obtain ⟨w289, hV290, h⟩ := no_b h
        refine vr_cVlp nj_isX [] [] C nd_Law_1196 rfl ml_Law_174 my_Nj_upper (co_Nj_upper s w289 hV290) (em_Law_Nj s m) ⟨_, _, _, rfl, rfl, rfl⟩ rfl rfl nj_ro_Nj_upper hkc hks rfl ?_
        refine vr_al C nd_Law_1199 rfl ?_
        obtain ⟨w291, hV292, h⟩ := no_b h
        refine vr_cVlp nj_isM [] [.long w289] C nd_Law_1200 rfl ml_Law_178 my_Md_upper (co_Md_upper m w291 hV292) (em_Law_Md s m) ⟨_, _, _, rfl, rfl, rfl⟩ rfl rfl nj_ro_Md_upper hkc hks rfl ?_
        refine vr_lif_eq C nd_Law_1203 rfl nd_Law_1204 (fun hc => ?_) (fun hc => ?_)
        · have h := no_t hc h
          refine vr_inc (v := (v3 + (6 : Int32))) (ls' := [some (.ref 2000), some (.ref 0), some (.ref 53), some (.int (v3 + (6 : Int32)))]) C nd_Law_1296 rfl rfl rfl rfl rfl ?_
          refine vr_go C nd_Law_1299 ?_
          exact ih _ _ _ _ h
        · have h := no_f hc h
          refine vr_ic C nd_Law_1207 ?_
          cases h
      have h := no_f hS293 h
      by_cases hS298 : ((xs (nj_n v3)) &&& (63 : Int32)) = (40 : Int32)
      · have h := no_t hS298 h
        refine vr_tsI (40 : Int32) C nd_Law_33 hS298 (by decide) (by decide) rfl rfl ?_
        refine vr_al C nd_Law_1209 rfl ?_
        obtain ⟨w294, hV295, h⟩ := no_b h
        refine vr_cVlp nj_isX [] [] C nd_Law_1210 rfl ml_Law_179 my_Nj_lower (co_Nj_lower s w294 hV295) (em_Law_Nj s m) ⟨_, _, _, rfl, rfl, rfl⟩ rfl rfl nj_ro_Nj_lower hkc hks rfl ?_
        refine vr_al C nd_Law_1213 rfl ?_
        obtain ⟨w296, hV297, h⟩ := no_b h
        refine vr_cVlp nj_isM [] [.long w294] C nd_Law_1214 rfl ml_Law_182 my_Md_lower (co_Md_lower m w296 hV297) (em_Law_Md s m) ⟨_, _, _, rfl, rfl, rfl⟩ rfl rfl nj_ro_Md_lower hkc hks rfl ?_
        refine vr_lif_eq C nd_Law_1217 rfl nd_Law_1218 (fun hc => ?_) (fun hc => ?_)
        · have h := no_t hc h
          refine vr_inc (v := (v3 + (6 : Int32))) (ls' := [some (.ref 2000), some (.ref 0), some (.ref 53), some (.int (v3 + (6 : Int32)))]) C nd_Law_1296 rfl rfl rfl rfl rfl ?_
          refine vr_go C nd_Law_1299 ?_
          exact ih _ _ _ _ h
        · have h := no_f hc h
          refine vr_ic C nd_Law_1221 ?_
          cases h
      have h := no_f hS298 h
      by_cases hS305 : ((xs (nj_n v3)) &&& (63 : Int32)) = (41 : Int32)
      · have h := no_t hS305 h
        refine vr_tsI (41 : Int32) C nd_Law_33 hS305 (by decide) (by decide) rfl rfl ?_
        refine vr_al C nd_Law_1223 rfl ?_
        refine vr_al C nd_Law_1224 rfl ?_
        refine vr_il C nd_Law_1225 rfl ?_
        refine vr_ic C nd_Law_1226 ?_
        refine vr_iadd C nd_Law_1227 rfl ?_
        obtain ⟨hN299, h⟩ := no_i h
        refine vr_script C hW nd_Law_1228 rfl hN299 ?_
        obtain ⟨w300, hV301, h⟩ := no_b h
        refine vr_cVip nj_isX [.int (xs (nj_n (v3 + (1 : Int32))))] [] C nd_Law_1229 rfl ml_Law_183 my_Nj_count (co_Nj_count s (xs (nj_n (v3 + (1 : Int32)))) w300 hV301) (em_Law_Nj s m) ⟨_, _, _, rfl, rfl, rfl⟩ rfl rfl nj_ro_Nj_count hkc hks rfl ?_
        refine vr_al C nd_Law_1232 rfl ?_
        refine vr_al C nd_Law_1233 rfl ?_
        refine vr_il C nd_Law_1234 rfl ?_
        refine vr_ic C nd_Law_1235 ?_
        refine vr_iadd C nd_Law_1236 rfl ?_
        obtain ⟨hN302, h⟩ := no_i h
        refine vr_script C hW nd_Law_1237 rfl hN302 ?_
        obtain ⟨w303, hV304, h⟩ := no_b h
        refine vr_cVip nj_isM [.int (xs (nj_n (v3 + (1 : Int32))))] [.int w300] C nd_Law_1238 rfl ml_Law_186 my_Md_count (co_Md_count m (xs (nj_n (v3 + (1 : Int32)))) w303 hV304) (em_Law_Md s m) ⟨_, _, _, rfl, rfl, rfl⟩ rfl rfl nj_ro_Md_count hkc hks rfl ?_
        refine vr_cm_eq C nd_Law_1241 (fun hc => ?_) (fun hc => ?_)
        · have h := no_t hc h
          refine vr_inc (v := (v3 + (6 : Int32))) (ls' := [some (.ref 2000), some (.ref 0), some (.ref 53), some (.int (v3 + (6 : Int32)))]) C nd_Law_1296 rfl rfl rfl rfl rfl ?_
          refine vr_go C nd_Law_1299 ?_
          exact ih _ _ _ _ h
        · have h := no_f hc h
          refine vr_ic C nd_Law_1244 ?_
          cases h
      have h := no_f hS305 h
      by_cases hS310 : ((xs (nj_n v3)) &&& (63 : Int32)) = (42 : Int32)
      · have h := no_t hS310 h
        refine vr_tsI (42 : Int32) C nd_Law_33 hS310 (by decide) (by decide) rfl rfl ?_
        refine vr_al C nd_Law_1246 rfl ?_
        obtain ⟨w306, hV307, h⟩ := no_b h
        refine vr_cVip nj_isX [] [] C nd_Law_1247 rfl ml_Law_187 my_Nj_finding (co_Nj_finding s w306 hV307) (em_Law_Nj s m) ⟨_, _, _, rfl, rfl, rfl⟩ rfl rfl nj_ro_Nj_finding hkc hks rfl ?_
        refine vr_al C nd_Law_1250 rfl ?_
        obtain ⟨w308, hV309, h⟩ := no_b h
        refine vr_cVip nj_isM [] [.int w306] C nd_Law_1251 rfl ml_Law_190 my_Md_finding (co_Md_finding m w308 hV309) (em_Law_Md s m) ⟨_, _, _, rfl, rfl, rfl⟩ rfl rfl nj_ro_Md_finding hkc hks rfl ?_
        refine vr_cm_eq C nd_Law_1254 (fun hc => ?_) (fun hc => ?_)
        · have h := no_t hc h
          refine vr_inc (v := (v3 + (6 : Int32))) (ls' := [some (.ref 2000), some (.ref 0), some (.ref 53), some (.int (v3 + (6 : Int32)))]) C nd_Law_1296 rfl rfl rfl rfl rfl ?_
          refine vr_go C nd_Law_1299 ?_
          exact ih _ _ _ _ h
        · have h := no_f hc h
          refine vr_ic C nd_Law_1257 ?_
          cases h
      have h := no_f hS310 h
      by_cases hS317 : ((xs (nj_n v3)) &&& (63 : Int32)) = (43 : Int32)
      · have h := no_t hS317 h
        refine vr_tsI (43 : Int32) C nd_Law_33 hS317 (by decide) (by decide) rfl rfl ?_
        refine vr_al C nd_Law_1259 rfl ?_
        refine vr_al C nd_Law_1260 rfl ?_
        refine vr_il C nd_Law_1261 rfl ?_
        refine vr_ic C nd_Law_1262 ?_
        refine vr_iadd C nd_Law_1263 rfl ?_
        obtain ⟨hN311, h⟩ := no_i h
        refine vr_script C hW nd_Law_1264 rfl hN311 ?_
        obtain ⟨w312, hV313, h⟩ := no_b h
        refine vr_cVip nj_isX [.int (xs (nj_n (v3 + (1 : Int32))))] [] C nd_Law_1265 rfl ml_Law_191 my_Nj_findings (co_Nj_findings s (xs (nj_n (v3 + (1 : Int32)))) w312 hV313) (em_Law_Nj s m) ⟨_, _, _, rfl, rfl, rfl⟩ rfl rfl nj_ro_Nj_findings hkc hks rfl ?_
        refine vr_al C nd_Law_1268 rfl ?_
        refine vr_al C nd_Law_1269 rfl ?_
        refine vr_il C nd_Law_1270 rfl ?_
        refine vr_ic C nd_Law_1271 ?_
        refine vr_iadd C nd_Law_1272 rfl ?_
        obtain ⟨hN314, h⟩ := no_i h
        refine vr_script C hW nd_Law_1273 rfl hN314 ?_
        obtain ⟨w315, hV316, h⟩ := no_b h
        refine vr_cVip nj_isM [.int (xs (nj_n (v3 + (1 : Int32))))] [.int w312] C nd_Law_1274 rfl ml_Law_194 my_Md_findings (co_Md_findings m (xs (nj_n (v3 + (1 : Int32)))) w315 hV316) (em_Law_Md s m) ⟨_, _, _, rfl, rfl, rfl⟩ rfl rfl nj_ro_Md_findings hkc hks rfl ?_
        refine vr_cm_eq C nd_Law_1277 (fun hc => ?_) (fun hc => ?_)
        · have h := no_t hc h
          refine vr_inc (v := (v3 + (6 : Int32))) (ls' := [some (.ref 2000), some (.ref 0), some (.ref 53), some (.int (v3 + (6 : Int32)))]) C nd_Law_1296 rfl rfl rfl rfl rfl ?_
          refine vr_go C nd_Law_1299 ?_
          exact ih _ _ _ _ h
        · have h := no_f hc h
          refine vr_ic C nd_Law_1280 ?_
          cases h
      have h := no_f hS317 h
      by_cases hS322 : ((xs (nj_n v3)) &&& (63 : Int32)) = (44 : Int32)
      · have h := no_t hS322 h
        refine vr_tsI (44 : Int32) C nd_Law_33 hS322 (by decide) (by decide) rfl rfl ?_
        refine vr_al C nd_Law_1282 rfl ?_
        obtain ⟨w318, hV319, h⟩ := no_b h
        refine vr_cVlp nj_isX [] [] C nd_Law_1283 rfl ml_Law_195 my_Nj_digest (co_Nj_digest s w318 hV319) (em_Law_Nj s m) ⟨_, _, _, rfl, rfl, rfl⟩ rfl rfl nj_ro_Nj_digest hkc hks rfl ?_
        refine vr_al C nd_Law_1286 rfl ?_
        obtain ⟨w320, hV321, h⟩ := no_b h
        refine vr_cVlp nj_isM [] [.long w318] C nd_Law_1287 rfl ml_Law_198 my_Md_digest (co_Md_digest m w320 hV321) (em_Law_Md s m) ⟨_, _, _, rfl, rfl, rfl⟩ rfl rfl nj_ro_Md_digest hkc hks rfl ?_
        refine vr_lif_eq C nd_Law_1290 rfl nd_Law_1291 (fun hc => ?_) (fun hc => ?_)
        · have h := no_t hc h
          refine vr_inc (v := (v3 + (6 : Int32))) (ls' := [some (.ref 2000), some (.ref 0), some (.ref 53), some (.int (v3 + (6 : Int32)))]) C nd_Law_1296 rfl rfl rfl rfl rfl ?_
          refine vr_go C nd_Law_1299 ?_
          exact ih _ _ _ _ h
        · have h := no_f hc h
          refine vr_ic C nd_Law_1294 ?_
          cases h
      have h := no_f hS322 h
      refine vr_tsO C nd_Law_33 (by have a0 := lv_neT (a := 0) hS10 (by decide); have a1 := lv_neT (a := 1) hS21 (by decide); have a2 := lv_neT (a := 2) hS30 (by decide); have a3 := lv_neT (a := 3) hS37 (by decide); have a4 := lv_neT (a := 4) hS52 (by decide); have a5 := lv_neT (a := 5) hS59 (by decide); have a6 := lv_neT (a := 6) hS68 (by decide); have a7 := lv_neT (a := 7) hS79 (by decide); have a8 := lv_neT (a := 8) hS86 (by decide); have a9 := lv_neT (a := 9) hS93 (by decide); have a10 := lv_neT (a := 10) hS102 (by decide); have a11 := lv_neT (a := 11) hS111 (by decide); have a12 := lv_neT (a := 12) hS118 (by decide); have a13 := lv_neT (a := 13) hS125 (by decide); have a14 := lv_neT (a := 14) hS132 (by decide); have a15 := lv_neT (a := 15) hS137 (by decide); have a16 := lv_neT (a := 16) hS146 (by decide); have a17 := lv_neT (a := 17) hS153 (by decide); have a18 := lv_neT (a := 18) hS160 (by decide); have a19 := lv_neT (a := 19) hS167 (by decide); have a20 := lv_neT (a := 20) hS174 (by decide); have a21 := lv_neT (a := 21) hS179 (by decide); have a22 := lv_neT (a := 22) hS186 (by decide); have a23 := lv_neT (a := 23) hS193 (by decide); have a24 := lv_neT (a := 24) hS200 (by decide); have a25 := lv_neT (a := 25) hS207 (by decide); have a26 := lv_neT (a := 26) hS212 (by decide); have a27 := lv_neT (a := 27) hS217 (by decide); have a28 := lv_neT (a := 28) hS224 (by decide); have a29 := lv_neT (a := 29) hS229 (by decide); have a30 := lv_neT (a := 30) hS234 (by decide); have a31 := lv_neT (a := 31) hS241 (by decide); have a32 := lv_neT (a := 32) hS248 (by decide); have a33 := lv_neT (a := 33) hS253 (by decide); have a34 := lv_neT (a := 34) hS260 (by decide); have a35 := lv_neT (a := 35) hS267 (by decide); have a36 := lv_neT (a := 36) hS274 (by decide); have a37 := lv_neT (a := 37) hS283 (by decide); have a38 := lv_neT (a := 38) hS288 (by decide); have a39 := lv_neT (a := 39) hS293 (by decide); have a40 := lv_neT (a := 40) hS298 (by decide); have a41 := lv_neT (a := 41) hS305 (by decide); have a42 := lv_neT (a := 42) hS310 (by decide); have a43 := lv_neT (a := 43) hS317 (by decide); have a44 := lv_neT (a := 44) hS322 (by decide); omega) rfl ?_
      refine vr_inc (v := (v3 + (6 : Int32))) (ls' := [some (.ref 2000), some (.ref 0), some (.ref 53), some (.int (v3 + (6 : Int32)))]) C nd_Law_1296 rfl rfl rfl rfl rfl ?_
      refine vr_go C nd_Law_1299 ?_
      exact ih _ _ _ _ h
