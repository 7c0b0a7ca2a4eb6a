def am_mt0 (x : Nat) : Option (List Bool) := cond (Nat.blt x 884795) (cond (Nat.blt x 544826) (cond (Nat.blt x 360486) (cond (Nat.blt x 159795) (cond (Nat.blt x 126980) (cond (Nat.blt x 98317) (cond (Nat.blt x 77909) (cond (Nat.blt x 73768) (cond (Nat.beq x 53262) (some [true, true, false, false]) (none)) (cond (Nat.beq x 73768) (some [true, false, true, true, true, true, false]) (none))) (cond (Nat.blt x 86030) (cond (Nat.beq x 77909) (some [true, false, false, false, true, true, true, false]) (none)) (cond (Nat.beq x 86030) (some [true, true, true, true, true]) (none)))) (cond (Nat.blt x 106538) (cond (Nat.blt x 102408) (cond (Nat.beq x 98317) (some [true, true]) (none)) (cond (Nat.beq x 102408) (some [true, true, true]) (none))) (cond (Nat.blt x 110608) (cond (Nat.beq x 106538) (some [true, true, true, true, true]) (none)) (cond (Nat.blt x 114721) (cond (Nat.beq x 110608) (some [true, true, true, true, true]) (none)) (cond (Nat.beq x 114721) (some [true, false, false, true, true, false]) (none)))))) (cond (Nat.blt x 139387) (cond (Nat.blt x 139320) (cond (Nat.blt x 135181) (cond (Nat.beq x 126980) (some [true, true, true]) (none)) (cond (Nat.beq x 135181) (some [true, true, true, true, true, false]) (none))) (cond (Nat.blt x 139348) (cond (Nat.beq x 139320) (some [true, false, true, true, true, false, false, false, false, false, false, false]) (none)) (cond (Nat.blt x 139359) (cond (Nat.beq x 139348) (some [false, false, false, true, true, true, false, false, false, false, false, false]) (none)) (cond (Nat.beq x 139359) (some [false, false, false, true, true, true, true, true, true, true, false, false]) (none))))) (cond (Nat.blt x 147495) (cond (Nat.blt x 143406) (cond (Nat.beq x 139387) (some [false, false, false, true, true, true, true, true, true, true, true, true]) (none)) (cond (Nat.beq x 143406) (some [false, true, true, false, true, true, false, true, false, false, false]) (none))) (cond (Nat.blt x 147529) (cond (Nat.beq x 147495) (some [true, false, true, true, true, true, true]) (none)) (cond (Nat.blt x 155652) (cond (Nat.beq x 147529) (some [true, false, true, true, false, true, true]) (none)) (cond (Nat.beq x 155652) (some [true, true, true]) (none))))))) (cond (Nat.blt x 233477) (cond (Nat.blt x 180238) (cond (Nat.blt x 167954) (cond (Nat.blt x 163858) (cond (Nat.beq x 159795) (some [true, true, true, false, true, true, true, false]) (none)) (cond (Nat.beq x 163858) (some [true, true, true]) (none))) (cond (Nat.blt x 176134) (cond (Nat.beq x 167954) (some [true, true, true]) (none)) (cond (Nat.beq x 176134) (some [true, true, true, true]) (none)))) (cond (Nat.blt x 204802) (cond (Nat.blt x 200708) (cond (Nat.beq x 180238) (some [true, true, true, true, true, false]) (none)) (cond (Nat.beq x 200708) (some [true, true, true, true]) (none))) (cond (Nat.blt x 212994) (cond (Nat.beq x 204802) (some [true, true, true]) (none)) (cond (Nat.blt x 217102) (cond (Nat.beq x 212994) (some [true, true]) (none)) (cond (Nat.beq x 217102) (some [true, true, true, false, false]) (none)))))) (cond (Nat.blt x 294955) (cond (Nat.blt x 241673) (cond (Nat.blt x 237573) (cond (Nat.beq x 233477) (some [true, true, true, false, true]) (none)) (cond (Nat.beq x 237573) (some [true, false, true, true, false, true]) (none))) (cond (Nat.blt x 278530) (cond (Nat.beq x 241673) (some [false, false, false, false, true, false, true, false, true, false, false]) (none)) (cond (Nat.blt x 282627) (cond (Nat.beq x 278530) (some [true, true, true, true]) (none)) (cond (Nat.beq x 282627) (some [true, true, true, true, true, true]) (none))))) (cond (Nat.blt x 323588) (cond (Nat.blt x 299027) (cond (Nat.beq x 294955) (some [true, false]) (none)) (cond (Nat.beq x 299027) (some [true, true]) (none))) (cond (Nat.blt x 360450) (cond (Nat.beq x 323588) (some [true, true, true, true, false]) (none)) (cond (Nat.blt x 360460) (cond (Nat.beq x 360450) (some [true, true, false, false, false]) (none)) (cond (Nat.beq x 360460) (some [true, true, true, false, false]) (none)))))))) (cond (Nat.blt x 491535) (cond (Nat.blt x 421907) (cond (Nat.blt x 401412) (cond (Nat.blt x 364546) (cond (Nat.blt x 360526) (cond (Nat.beq x 360486) (some [true, true, true, false, false]) (none)) (cond (Nat.beq x 360526) (some [true, true, false, false, false]) (none))) (cond (Nat.blt x 364556) (cond (Nat.beq x 364546) (some [true, true, true, false, false]) (none)) (cond (Nat.beq x 364556) (some [true, true, true, true, false]) (none)))) (cond (Nat.blt x 409604) (cond (Nat.blt x 405508) (cond (Nat.beq x 401412) (some [true, true, true, true]) (none)) (cond (Nat.beq x 405508) (some [true, true, true, true]) (none))) (cond (Nat.blt x 413700) (cond (Nat.beq x 409604) (some [true, true, true, true]) (none)) (cond (Nat.blt x 417794) (cond (Nat.beq x 413700) (some [true, true, true, true]) (none)) (cond (Nat.beq x 417794) (some [true, true, true, true, false]) (none)))))) (cond (Nat.blt x 450609) (cond (Nat.blt x 438275) (cond (Nat.blt x 425990) (cond (Nat.beq x 421907) (some [true, true, true, true, true, false]) (none)) (cond (Nat.beq x 425990) (some [true, true, true, true, true, true]) (none))) (cond (Nat.blt x 442406) (cond (Nat.beq x 438275) (some [true, true, true]) (none)) (cond (Nat.blt x 450568) (cond (Nat.beq x 442406) (some [true, false, true]) (none)) (cond (Nat.beq x 450568) (some [true, false]) (none))))) (cond (Nat.blt x 475143) (cond (Nat.blt x 454661) (cond (Nat.beq x 450609) (some [true, false]) (none)) (cond (Nat.beq x 454661) (some [true, true, true]) (none))) (cond (Nat.blt x 479252) (cond (Nat.beq x 475143) (some [true, true, true, true, true]) (none)) (cond (Nat.blt x 487466) (cond (Nat.beq x 479252) (some [true, true, true, true, true]) (none)) (cond (Nat.beq x 487466) (some [true, true, true]) (none))))))) (cond (Nat.blt x 524300) (cond (Nat.blt x 516113) (cond (Nat.blt x 507921) (cond (Nat.blt x 503824) (cond (Nat.beq x 491535) (some [true, false, false, true]) (none)) (cond (Nat.beq x 503824) (some [true, false, false]) (none))) (cond (Nat.blt x 512017) (cond (Nat.beq x 507921) (some [true, true, false]) (none)) (cond (Nat.blt x 512071) (cond (Nat.beq x 512017) (some [true, false, false, false]) (none)) (cond (Nat.beq x 512071) (some [true, true, true, false]) (none))))) (cond (Nat.blt x 520207) (cond (Nat.blt x 516146) (cond (Nat.beq x 516113) (some [true, true, false, false, false]) (none)) (cond (Nat.beq x 516146) (some [true, true, true, false, false]) (none))) (cond (Nat.blt x 520227) (cond (Nat.beq x 520207) (some [true, false]) (none)) (cond (Nat.blt x 520266) (cond (Nat.beq x 520227) (some [true, true]) (none)) (cond (Nat.beq x 520266) (some [true, true]) (none)))))) (cond (Nat.blt x 536638) (cond (Nat.blt x 528436) (cond (Nat.blt x 528420) (cond (Nat.beq x 524300) (some [true, true]) (none)) (cond (Nat.beq x 528420) (some [true, true, true, false]) (none))) (cond (Nat.blt x 532488) (cond (Nat.beq x 528436) (some [true, true, true, true]) (none)) (cond (Nat.blt x 536581) (cond (Nat.beq x 532488) (some [true, true, true, true]) (none)) (cond (Nat.beq x 536581) (some [true, true, true, true, true]) (none))))) (cond (Nat.blt x 540714) (cond (Nat.blt x 540696) (cond (Nat.beq x 536638) (some [false, true, false, true, true]) (none)) (cond (Nat.beq x 540696) (some [true, true, true, false]) (none))) (cond (Nat.blt x 544776) (cond (Nat.beq x 540714) (some [true, true, true, false]) (none)) (cond (Nat.blt x 544801) (cond (Nat.beq x 544776) (some [true, true, true, true, false]) (none)) (cond (Nat.beq x 544801) (some [true, true, true, true, false]) (none))))))))) (cond (Nat.blt x 778571) (cond (Nat.blt x 684073) (cond (Nat.blt x 589831) (cond (Nat.blt x 553017) (cond (Nat.blt x 548897) (cond (Nat.blt x 548872) (cond (Nat.beq x 544826) (some [true, true, true, true, false]) (none)) (cond (Nat.beq x 548872) (some [true, true, true, true, false]) (none))) (cond (Nat.blt x 548922) (cond (Nat.beq x 548897) (some [true, true, true, true, false]) (none)) (cond (Nat.beq x 548922) (some [true, true, true, true, false]) (none)))) (cond (Nat.blt x 581634) (cond (Nat.blt x 565250) (cond (Nat.beq x 553017) (some [true, true, false, true]) (none)) (cond (Nat.beq x 565250) (some [true, true, true, true]) (none))) (cond (Nat.blt x 581712) (cond (Nat.beq x 581634) (some [true, true, true, true]) (none)) (cond (Nat.blt x 581735) (cond (Nat.beq x 581712) (some [true, true, false, false]) (none)) (cond (Nat.beq x 581735) (some [true, false, false, false]) (none)))))) (cond (Nat.blt x 667652) (cond (Nat.blt x 598018) (cond (Nat.blt x 593922) (cond (Nat.beq x 589831) (some [true, true, true, false]) (none)) (cond (Nat.beq x 593922) (some [true, true, true, false]) (none))) (cond (Nat.blt x 602114) (cond (Nat.beq x 598018) (some [true, true, true, false]) (none)) (cond (Nat.blt x 663567) (cond (Nat.beq x 602114) (some [true, true, true]) (none)) (cond (Nat.beq x 663567) (some [true, true, false, true, true, true, true, false]) (none))))) (cond (Nat.blt x 679939) (cond (Nat.blt x 667673) (cond (Nat.beq x 667652) (some [true, true, true, true, false]) (none)) (cond (Nat.beq x 667673) (some [true, true, true, true, false]) (none))) (cond (Nat.blt x 680016) (cond (Nat.beq x 679939) (some [true, true, true, true, true, true, true, false]) (none)) (cond (Nat.blt x 684038) (cond (Nat.beq x 680016) (some [true, true, false, false, true, false, false, true]) (none)) (cond (Nat.beq x 684038) (some [true, true, true, true, true, false]) (none))))))) (cond (Nat.blt x 749570) (cond (Nat.blt x 716828) (cond (Nat.blt x 688191) (cond (Nat.blt x 688134) (cond (Nat.beq x 684073) (some [true, true, true, true, true, true]) (none)) (cond (Nat.beq x 688134) (some [true, true, true, true, true, true, false, false, false, false]) (none))) (cond (Nat.blt x 692234) (cond (Nat.beq x 688191) (some [true, true, true, true, true, true, true, true, true, false]) (none)) (cond (Nat.beq x 692234) (some [true, true, true, true, true, true, true, false]) (none)))) (cond (Nat.blt x 716867) (cond (Nat.blt x 716840) (cond (Nat.beq x 716828) (some [true, true, true, true, true, true, true, false, false]) (none)) (cond (Nat.beq x 716840) (some [true, true, true, true, true, true, true, true, false]) (none))) (cond (Nat.blt x 720903) (cond (Nat.beq x 716867) (some [true, true, true, true, true, true, true, true, false]) (none)) (cond (Nat.blt x 733200) (cond (Nat.beq x 720903) (some [true, true, true, true, true]) (none)) (cond (Nat.beq x 733200) (some [true, false, false]) (none)))))) (cond (Nat.blt x 778290) (cond (Nat.blt x 761859) (cond (Nat.blt x 753668) (cond (Nat.beq x 749570) (some [false, true, true, true]) (none)) (cond (Nat.beq x 753668) (some [true, true, true]) (none))) (cond (Nat.blt x 778240) (cond (Nat.beq x 761859) (some [true, true, true]) (none)) (cond (Nat.blt x 778277) (cond (Nat.beq x 778240) (some [true, false]) (none)) (cond (Nat.beq x 778277) (some [true, false]) (none))))) (cond (Nat.blt x 778399) (cond (Nat.blt x 778348) (cond (Nat.beq x 778290) (some [true, false]) (none)) (cond (Nat.beq x 778348) (some [true, false]) (none))) (cond (Nat.blt x 778427) (cond (Nat.beq x 778399) (some [true, false]) (none)) (cond (Nat.blt x 778477) (cond (Nat.beq x 778427) (some [true, false]) (none)) (cond (Nat.beq x 778477) (some [true, false]) (none)))))))) (cond (Nat.blt x 864326) (cond (Nat.blt x 843855) (cond (Nat.blt x 790549) (cond (Nat.blt x 782384) (cond (Nat.blt x 782368) (cond (Nat.beq x 778571) (some [true, false]) (none)) (cond (Nat.beq x 782368) (some [false, false, false, true, true, true, true, false]) (none))) (cond (Nat.blt x 782402) (cond (Nat.beq x 782384) (some [false, false, false, false, true, true, true, false]) (none)) (cond (Nat.beq x 782402) (some [false, false, false, false, false, true, true, false]) (none)))) (cond (Nat.blt x 819216) (cond (Nat.blt x 811062) (cond (Nat.beq x 790549) (some [true, true]) (none)) (cond (Nat.beq x 811062) (some [true, false, false, false]) (none))) (cond (Nat.blt x 835584) (cond (Nat.beq x 819216) (some [true, false, false]) (none)) (cond (Nat.blt x 843805) (cond (Nat.beq x 835584) (some [true, true]) (none)) (cond (Nat.beq x 843805) (some [true, false]) (none)))))) (cond (Nat.blt x 852043) (cond (Nat.blt x 851972) (cond (Nat.blt x 843873) (cond (Nat.beq x 843855) (some [true, true]) (none)) (cond (Nat.beq x 843873) (some [true, false]) (none))) (cond (Nat.blt x 851986) (cond (Nat.beq x 851972) (some [true, false, true, true, false]) (none)) (cond (Nat.blt x 852018) (cond (Nat.beq x 851986) (some [true, false, true, false, true]) (none)) (cond (Nat.beq x 852018) (some [true, false, true, false, true]) (none))))) (cond (Nat.blt x 856071) (cond (Nat.blt x 852064) (cond (Nat.beq x 852043) (some [true, false, true, false, false]) (none)) (cond (Nat.beq x 852064) (some [true, false, true, false, false]) (none))) (cond (Nat.blt x 856093) (cond (Nat.beq x 856071) (some [true, true]) (none)) (cond (Nat.blt x 864295) (cond (Nat.beq x 856093) (some [false, true]) (none)) (cond (Nat.beq x 864295) (some [true, false, false, true, false]) (none))))))) (cond (Nat.blt x 864596) (cond (Nat.blt x 864457) (cond (Nat.blt x 864355) (cond (Nat.blt x 864339) (cond (Nat.beq x 864326) (some [true, false, false, true, true]) (none)) (cond (Nat.beq x 864339) (some [true, false, false, true, true]) (none))) (cond (Nat.blt x 864398) (cond (Nat.beq x 864355) (some [true, false, false, true, false]) (none)) (cond (Nat.blt x 864432) (cond (Nat.beq x 864398) (some [true, false, false, true, false]) (none)) (cond (Nat.beq x 864432) (some [true, false, false, true, false]) (none))))) (cond (Nat.blt x 864497) (cond (Nat.blt x 864475) (cond (Nat.beq x 864457) (some [true, false, false, true, false]) (none)) (cond (Nat.beq x 864475) (some [true, false, false, true, false]) (none))) (cond (Nat.blt x 864530) (cond (Nat.beq x 864497) (some [true, false, false, true, false]) (none)) (cond (Nat.blt x 864553) (cond (Nat.beq x 864530) (some [true, false, false, true, false]) (none)) (cond (Nat.beq x 864553) (some [true, false, false, true, false]) (none)))))) (cond (Nat.blt x 876620) (cond (Nat.blt x 868365) (cond (Nat.blt x 864616) (cond (Nat.beq x 864596) (some [true, false, false, false, false]) (none)) (cond (Nat.beq x 864616) (some [true, false, false, false, false]) (none))) (cond (Nat.blt x 872462) (cond (Nat.beq x 868365) (some [true]) (none)) (cond (Nat.blt x 876558) (cond (Nat.beq x 872462) (some [true, true]) (none)) (cond (Nat.beq x 876558) (some [true, false, false, false]) (none))))) (cond (Nat.blt x 880718) (cond (Nat.blt x 880654) (cond (Nat.beq x 876620) (some [true, true, true, false]) (none)) (cond (Nat.beq x 880654) (some [true, true, false]) (none))) (cond (Nat.blt x 884748) (cond (Nat.beq x 880718) (some [true, false, true]) (none)) (cond (Nat.blt x 884762) (cond (Nat.beq x 884748) (some [true, false, false]) (none)) (cond (Nat.beq x 884762) (some [true, true, false]) (none)))))))))) (cond (Nat.blt x 1146907) (cond (Nat.blt x 1028131) (cond (Nat.blt x 913434) (cond (Nat.blt x 893029) (cond (Nat.blt x 888989) (cond (Nat.blt x 888909) (cond (Nat.blt x 888873) (cond (Nat.beq x 884795) (some [true, false, false]) (none)) (cond (Nat.beq x 888873) (some [true, true]) (none))) (cond (Nat.blt x 888940) (cond (Nat.beq x 888909) (some [true, true]) (none)) (cond (Nat.beq x 888940) (some [true, false]) (none)))) (cond (Nat.blt x 892938) (cond (Nat.blt x 892930) (cond (Nat.beq x 888989) (some [true, false]) (none)) (cond (Nat.beq x 892930) (some [true, true, false, false]) (none))) (cond (Nat.blt x 893009) (cond (Nat.beq x 892938) (some [true, true, true, false]) (none)) (cond (Nat.blt x 893019) (cond (Nat.beq x 893009) (some [true, true, false, false]) (none)) (cond (Nat.beq x 893019) (some [true, true, true, false]) (none)))))) (cond (Nat.blt x 897343) (cond (Nat.blt x 897123) (cond (Nat.blt x 897047) (cond (Nat.beq x 893029) (some [true, true, true, true]) (none)) (cond (Nat.beq x 897047) (some [true, true, false]) (none))) (cond (Nat.blt x 897146) (cond (Nat.beq x 897123) (some [true, false, true]) (none)) (cond (Nat.blt x 897167) (cond (Nat.beq x 897146) (some [true, false, false]) (none)) (cond (Nat.beq x 897167) (some [true, false, false]) (none))))) (cond (Nat.blt x 897409) (cond (Nat.blt x 897364) (cond (Nat.beq x 897343) (some [true, false, true]) (none)) (cond (Nat.beq x 897364) (some [true, false, true]) (none))) (cond (Nat.blt x 905228) (cond (Nat.beq x 897409) (some [true, false, true]) (none)) (cond (Nat.blt x 905268) (cond (Nat.beq x 905228) (some [true, true]) (none)) (cond (Nat.beq x 905268) (some [true, true]) (none))))))) (cond (Nat.blt x 950276) (cond (Nat.blt x 942114) (cond (Nat.blt x 921636) (cond (Nat.blt x 921604) (cond (Nat.beq x 913434) (some [true, true]) (none)) (cond (Nat.beq x 921604) (some [true, false, true, true, false]) (none))) (cond (Nat.blt x 942084) (cond (Nat.beq x 921636) (some [true, false, true, true, true]) (none)) (cond (Nat.beq x 942084) (some [true, true, true, true, false]) (none)))) (cond (Nat.blt x 942187) (cond (Nat.blt x 942168) (cond (Nat.beq x 942114) (some [true, true, true, true, false]) (none)) (cond (Nat.beq x 942168) (some [true, true, true, true, true]) (none))) (cond (Nat.blt x 942249) (cond (Nat.beq x 942187) (some [true, true, true, true, false]) (none)) (cond (Nat.blt x 942258) (cond (Nat.beq x 942249) (some [true, true, true, false, false]) (none)) (cond (Nat.beq x 942258) (some [true, true, true, true, false]) (none)))))) (cond (Nat.blt x 999477) (cond (Nat.blt x 974965) (cond (Nat.blt x 974920) (cond (Nat.beq x 950276) (some [true, true, true, true]) (none)) (cond (Nat.beq x 974920) (some [true, true, true, true, true]) (none))) (cond (Nat.blt x 978998) (cond (Nat.beq x 974965) (some [true, true, true, true, true]) (none)) (cond (Nat.blt x 979044) (cond (Nat.beq x 978998) (some [true, true, true, true, true]) (none)) (cond (Nat.beq x 979044) (some [true, true, true, true, true]) (none))))) (cond (Nat.blt x 1011731) (cond (Nat.blt x 1003659) (cond (Nat.beq x 999477) (some [true, true, true]) (none)) (cond (Nat.beq x 1003659) (some [true, true, false, false]) (none))) (cond (Nat.blt x 1024006) (cond (Nat.beq x 1011731) (some [true, true, true, false]) (none)) (cond (Nat.blt x 1028099) (cond (Nat.beq x 1024006) (some [true, true, true, false, false, true]) (none)) (cond (Nat.beq x 1028099) (some [true, true, true, true, true, false, false, false]) (none)))))))) (cond (Nat.blt x 1061016) (cond (Nat.blt x 1048595) (cond (Nat.blt x 1044523) (cond (Nat.blt x 1028154) (cond (Nat.blt x 1028142) (cond (Nat.beq x 1028131) (some [true, true, false, true, true, false, false, false]) (none)) (cond (Nat.beq x 1028142) (some [true, true, false, true, true, true, false, false]) (none))) (cond (Nat.blt x 1028219) (cond (Nat.beq x 1028154) (some [true, true, false, true, true, true, true, false]) (none)) (cond (Nat.beq x 1028219) (some [true, true, false, true, true, true, true, false]) (none)))) (cond (Nat.blt x 1044588) (cond (Nat.blt x 1044535) (cond (Nat.beq x 1044523) (some [true, true, true, true, false, false, false]) (none)) (cond (Nat.beq x 1044535) (some [true, true, true, true, true, false, false]) (none))) (cond (Nat.blt x 1044609) (cond (Nat.beq x 1044588) (some [true, true, true, false, true, false, false]) (none)) (cond (Nat.blt x 1044620) (cond (Nat.beq x 1044609) (some [true, true, true, false, true, true, false]) (none)) (cond (Nat.beq x 1044620) (some [true, true, true, false, true, true, true]) (none)))))) (cond (Nat.blt x 1056903) (cond (Nat.blt x 1052736) (cond (Nat.blt x 1052711) (cond (Nat.beq x 1048595) (some [true, true, true, true, true, true, true, true, false, false]) (none)) (cond (Nat.beq x 1052711) (some [true, true, true, true, false, false]) (none))) (cond (Nat.blt x 1056820) (cond (Nat.beq x 1052736) (some [true, false, true, true, true, true]) (none)) (cond (Nat.blt x 1056860) (cond (Nat.beq x 1056820) (some [true, true, true, true, true, false, false, false, false]) (none)) (cond (Nat.beq x 1056860) (some [true, false, false, false, true, true, true, true, false]) (none))))) (cond (Nat.blt x 1060938) (cond (Nat.blt x 1060900) (cond (Nat.beq x 1056903) (some [true, false, false, false, true, true, true, true, false]) (none)) (cond (Nat.beq x 1060900) (some [true, true, true, true, true, false, false, false]) (none))) (cond (Nat.blt x 1060949) (cond (Nat.beq x 1060938) (some [true, true, true, true, true, false, false, false]) (none)) (cond (Nat.blt x 1060961) (cond (Nat.beq x 1060949) (some [true, true, true, true, true, true, false, false]) (none)) (cond (Nat.beq x 1060961) (some [true, true, true, true, true, true, true, false]) (none))))))) (cond (Nat.blt x 1101832) (cond (Nat.blt x 1085442) (cond (Nat.blt x 1069094) (cond (Nat.blt x 1064979) (cond (Nat.beq x 1061016) (some [true, true, true, true, true, true, true, false]) (none)) (cond (Nat.beq x 1064979) (some [true, true, true, true]) (none))) (cond (Nat.blt x 1077288) (cond (Nat.beq x 1069094) (some [true, false, false, true, true]) (none)) (cond (Nat.blt x 1081384) (cond (Nat.beq x 1077288) (some [true, true, true, true, true]) (none)) (cond (Nat.beq x 1081384) (some [true, true, true, true, true]) (none))))) (cond (Nat.blt x 1093638) (cond (Nat.blt x 1089547) (cond (Nat.beq x 1085442) (some [true, true]) (none)) (cond (Nat.beq x 1089547) (some [true, true]) (none))) (cond (Nat.blt x 1097752) (cond (Nat.beq x 1093638) (some [true, true, true]) (none)) (cond (Nat.blt x 1097775) (cond (Nat.beq x 1097752) (some [true, true, true]) (none)) (cond (Nat.beq x 1097775) (some [true, true, false]) (none)))))) (cond (Nat.blt x 1122326) (cond (Nat.blt x 1110055) (cond (Nat.blt x 1105947) (cond (Nat.beq x 1101832) (some [true, true, true, true]) (none)) (cond (Nat.beq x 1105947) (some [true, true, true, true, true]) (none))) (cond (Nat.blt x 1114117) (cond (Nat.beq x 1110055) (some [true, false, true, true, true]) (none)) (cond (Nat.blt x 1122313) (cond (Nat.beq x 1114117) (some [true, true, true, true, true]) (none)) (cond (Nat.beq x 1122313) (some [true, true, true, false, false]) (none))))) (cond (Nat.blt x 1126472) (cond (Nat.blt x 1126463) (cond (Nat.beq x 1122326) (some [true, true, true, true, true]) (none)) (cond (Nat.beq x 1126463) (some [true, true, true, false, true, true, false]) (none))) (cond (Nat.blt x 1130502) (cond (Nat.beq x 1126472) (some [true, true, true, false, true, true, true]) (none)) (cond (Nat.blt x 1134594) (cond (Nat.beq x 1130502) (some [true, true, true]) (none)) (cond (Nat.beq x 1134594) (some [false, true, true]) (none))))))))) (cond (Nat.blt x 1225756) (cond (Nat.blt x 1212531) (cond (Nat.blt x 1200193) (cond (Nat.blt x 1167372) (cond (Nat.blt x 1155096) (cond (Nat.blt x 1150987) (cond (Nat.beq x 1146907) (some [true, true, true]) (none)) (cond (Nat.beq x 1150987) (some [true, true, true, true]) (none))) (cond (Nat.blt x 1167362) (cond (Nat.beq x 1155096) (some [true, true, true, true, true, false]) (none)) (cond (Nat.beq x 1167362) (some [true, true, false]) (none)))) (cond (Nat.blt x 1171468) (cond (Nat.blt x 1167426) (cond (Nat.beq x 1167372) (some [true, true, true]) (none)) (cond (Nat.beq x 1167426) (some [true, true, true]) (none))) (cond (Nat.blt x 1175560) (cond (Nat.beq x 1171468) (some [true, false, true, true, true, false]) (none)) (cond (Nat.blt x 1187902) (cond (Nat.beq x 1175560) (some [true, true, true]) (none)) (cond (Nat.beq x 1187902) (some [true, false, true, true, true, true, false, false]) (none)))))) (cond (Nat.blt x 1204315) (cond (Nat.blt x 1200264) (cond (Nat.blt x 1200204) (cond (Nat.beq x 1200193) (some [true, false, true, true, true, false, false, false, false, false, false, false]) (none)) (cond (Nat.beq x 1200204) (some [true, false, true, true, true, true, true, true, true, false, false, false]) (none))) (cond (Nat.blt x 1204275) (cond (Nat.beq x 1200264) (some [true, false, true, true, true, true, true, true, true, true, true, false]) (none)) (cond (Nat.blt x 1204290) (cond (Nat.beq x 1204275) (some [false, true, true, true, true, false, false, false, false, false]) (none)) (cond (Nat.beq x 1204290) (some [false, true, true, true, true, true, true, false, false, false]) (none))))) (cond (Nat.blt x 1204357) (cond (Nat.blt x 1204327) (cond (Nat.beq x 1204315) (some [false, true, true, false, true, true, true, true, false, false]) (none)) (cond (Nat.beq x 1204327) (some [false, true, true, false, true, true, true, true, true, true]) (none))) (cond (Nat.blt x 1204418) (cond (Nat.beq x 1204357) (some [false, true, true, false, true, true, true, true, true, true]) (none)) (cond (Nat.blt x 1212465) (cond (Nat.beq x 1204418) (some [false, false, false, false, true, true, true, true, true, false]) (none)) (cond (Nat.beq x 1212465) (some [true, false, true, true, true, true, true, false, false]) (none))))))) (cond (Nat.blt x 1225278) (cond (Nat.blt x 1225017) (cond (Nat.blt x 1212584) (cond (Nat.blt x 1212558) (cond (Nat.beq x 1212531) (some [true, false, true, true, true, true, true, true, true]) (none)) (cond (Nat.beq x 1212558) (some [true, false, true, true, true, true, true, false, false]) (none))) (cond (Nat.blt x 1224727) (cond (Nat.beq x 1212584) (some [true, false, true, true, false, true, true, true, false]) (none)) (cond (Nat.blt x 1224944) (cond (Nat.beq x 1224727) (some [true, true, true, true, true, false, false]) (none)) (cond (Nat.beq x 1224944) (some [true, true, true, true, true, false, false]) (none))))) (cond (Nat.blt x 1225086) (cond (Nat.blt x 1225073) (cond (Nat.beq x 1225017) (some [true, true, true, true, true, false, false]) (none)) (cond (Nat.beq x 1225073) (some [true, true, true, true, true, false, false]) (none))) (cond (Nat.blt x 1225142) (cond (Nat.beq x 1225086) (some [true, true, true, true, true, false, false]) (none)) (cond (Nat.blt x 1225210) (cond (Nat.beq x 1225142) (some [true, true, true, true, true, false, false]) (none)) (cond (Nat.beq x 1225210) (some [true, true, true, true, true, false, false]) (none)))))) (cond (Nat.blt x 1225526) (cond (Nat.blt x 1225414) (cond (Nat.blt x 1225346) (cond (Nat.beq x 1225278) (some [true, true, true, true, true, false, false]) (none)) (cond (Nat.beq x 1225346) (some [true, true, true, true, true, false, false]) (none))) (cond (Nat.blt x 1225492) (cond (Nat.beq x 1225414) (some [true, true, true, true, true, false, false]) (none)) (cond (Nat.blt x 1225501) (cond (Nat.beq x 1225492) (some [true, true, true, true, true, false, false]) (none)) (cond (Nat.beq x 1225501) (some [true, true, true, true, true, false, false]) (none))))) (cond (Nat.blt x 1225674) (cond (Nat.blt x 1225606) (cond (Nat.beq x 1225526) (some [true, true, true, true, true, false, false]) (none)) (cond (Nat.beq x 1225606) (some [true, true, true, true, true, false, false]) (none))) (cond (Nat.blt x 1225695) (cond (Nat.beq x 1225674) (some [true, true, true, true, true, false, false]) (none)) (cond (Nat.blt x 1225722) (cond (Nat.beq x 1225695) (some [true, true, true, true, true, false, false]) (none)) (cond (Nat.beq x 1225722) (some [true, true, true, true, true, true, false]) (none)))))))) (cond (Nat.blt x 1226770) (cond (Nat.blt x 1226121) (cond (Nat.blt x 1225859) (cond (Nat.blt x 1225792) (cond (Nat.blt x 1225765) (cond (Nat.beq x 1225756) (some [true, true, true, true, true, false, false]) (none)) (cond (Nat.beq x 1225765) (some [true, true, true, true, true, false, false]) (none))) (cond (Nat.blt x 1225825) (cond (Nat.beq x 1225792) (some [true, true, true, true, true, false, false]) (none)) (cond (Nat.beq x 1225825) (some [true, true, true, true, true, true, false]) (none)))) (cond (Nat.blt x 1225881) (cond (Nat.blt x 1225868) (cond (Nat.beq x 1225859) (some [true, true, true, true, true, false, false]) (none)) (cond (Nat.beq x 1225868) (some [true, true, true, true, true, false, false]) (none))) (cond (Nat.blt x 1225961) (cond (Nat.beq x 1225881) (some [true, true, true, true, true, false, false]) (none)) (cond (Nat.blt x 1226041) (cond (Nat.beq x 1225961) (some [true, true, true, true, true, false, false]) (none)) (cond (Nat.beq x 1226041) (some [true, true, true, true, true, false, false]) (none)))))) (cond (Nat.blt x 1226509) (cond (Nat.blt x 1226293) (cond (Nat.blt x 1226213) (cond (Nat.beq x 1226121) (some [true, true, true, true, true, false, false]) (none)) (cond (Nat.beq x 1226213) (some [true, true, true, true, true, false, false]) (none))) (cond (Nat.blt x 1226349) (cond (Nat.beq x 1226293) (some [true, true, true, true, true, false, false]) (none)) (cond (Nat.blt x 1226429) (cond (Nat.beq x 1226349) (some [true, true, true, true, true, false, false]) (none)) (cond (Nat.beq x 1226429) (some [true, true, true, true, true, false, false]) (none))))) (cond (Nat.blt x 1226578) (cond (Nat.blt x 1226522) (cond (Nat.beq x 1226509) (some [true, true, true, true, true, false, false]) (none)) (cond (Nat.beq x 1226522) (some [true, true, true, true, true, false, false]) (none))) (cond (Nat.blt x 1226634) (cond (Nat.beq x 1226578) (some [true, true, true, true, true, false, false]) (none)) (cond (Nat.blt x 1226702) (cond (Nat.beq x 1226634) (some [true, true, true, true, true, false, false]) (none)) (cond (Nat.beq x 1226702) (some [true, true, true, true, true, false, false]) (none))))))) (cond (Nat.blt x 1227319) (cond (Nat.blt x 1226974) (cond (Nat.blt x 1226849) (cond (Nat.blt x 1226838) (cond (Nat.beq x 1226770) (some [true, true, true, true, true, false, false]) (none)) (cond (Nat.beq x 1226838) (some [true, true, true, true, true, false, false]) (none))) (cond (Nat.blt x 1226862) (cond (Nat.beq x 1226849) (some [true, true, true, true, true, false, false]) (none)) (cond (Nat.blt x 1226918) (cond (Nat.beq x 1226862) (some [true, true, true, true, true, false, false]) (none)) (cond (Nat.beq x 1226918) (some [true, true, true, true, true, false, false]) (none))))) (cond (Nat.blt x 1227158) (cond (Nat.blt x 1227066) (cond (Nat.beq x 1226974) (some [true, true, true, true, true, false, false]) (none)) (cond (Nat.beq x 1227066) (some [true, true, true, true, true, false, false]) (none))) (cond (Nat.blt x 1227238) (cond (Nat.beq x 1227158) (some [true, true, true, true, true, false, false]) (none)) (cond (Nat.blt x 1227306) (cond (Nat.beq x 1227238) (some [true, true, true, true, true, false, false]) (none)) (cond (Nat.beq x 1227306) (some [true, true, true, true, true, false, false]) (none)))))) (cond (Nat.blt x 1227580) (cond (Nat.blt x 1227455) (cond (Nat.blt x 1227399) (cond (Nat.beq x 1227319) (some [true, true, true, true, true, false, false]) (none)) (cond (Nat.beq x 1227399) (some [true, true, true, true, true, false, false]) (none))) (cond (Nat.blt x 1227511) (cond (Nat.beq x 1227455) (some [true, true, true, true, true, false, false]) (none)) (cond (Nat.blt x 1227567) (cond (Nat.beq x 1227511) (some [true, true, true, true, true, false, false]) (none)) (cond (Nat.beq x 1227567) (some [true, true, true, true, true, false, false]) (none))))) (cond (Nat.blt x 1227647) (cond (Nat.blt x 1227636) (cond (Nat.beq x 1227580) (some [true, true, true, true, true, false, false]) (none)) (cond (Nat.beq x 1227636) (some [true, true, true, true, true, false, false]) (none))) (cond (Nat.blt x 1227660) (cond (Nat.beq x 1227647) (some [true, true, true, true, true, false, false]) (none)) (cond (Nat.blt x 1429511) (cond (Nat.beq x 1227660) (some [true, true, true, true, true, false, false]) (none)) (cond (Nat.beq x 1429511) (some [true, false, false, true, true, true]) (none))))))))))
def am_mt (mi pc : Nat) : Option (List Bool) := am_mt0 (mi * 4096 + pc)
/-! THE ABSTRACT MACHINE: numbered methods over numbered objects. A heap: how many objects, cells and slots so far, ints, longs, references. -/
abbrev am_H : Type := Nat × Nat × Nat × (Nat → Nat → Int32) × (Nat → Nat → Int64) × (Nat → Nat → Option Nat)
def am_I (h : am_H) : Nat → Nat → Int32 := h.2.2.2.1
def am_J (h : am_H) : Nat → Nat → Int64 := h.2.2.2.2.1
def am_R (h : am_H) : Nat → Nat → Option Nat := h.2.2.2.2.2
def am_u {α : Type} (f : Nat → Nat → α) (i k : Nat) (v : α) : Nat → Nat → α := fun a => if a = i then (fun b => if b = k then v else f i b) else f a
def am_row {α : Type} (f : Nat → Nat → α) (i : Nat) (g : Nat → α) : Nat → Nat → α := fun a => if a = i then g else f a
def am_sI (h : am_H) (i k : Nat) (v : Int32) : am_H := (h.1, h.2.1, h.2.2.1, am_u h.2.2.2.1 i k v, h.2.2.2.2.1, h.2.2.2.2.2)
def am_sJ (h : am_H) (i k : Nat) (v : Int64) : am_H := (h.1, h.2.1, h.2.2.1, h.2.2.2.1, am_u h.2.2.2.2.1 i k v, h.2.2.2.2.2)
def am_sR (h : am_H) (i k : Nat) (v : Option Nat) : am_H := (h.1, h.2.1, h.2.2.1, h.2.2.2.1, h.2.2.2.2.1, am_u h.2.2.2.2.2 i k v)
/-- a new object of n places: all zero -/
def am_new (h : am_H) (n : Nat) : am_H := (h.1 + 1, h.2.1 + 1, h.2.2.1 + n, am_row h.2.2.2.1 h.1 (fun _ => 0), am_row h.2.2.2.2.1 h.1 (fun _ => 0), am_row h.2.2.2.2.2 h.1 (fun _ => none))
/-- an exception was made -/
def am_ex (h : am_H) : am_H := (h.1, h.2.1 + 1, h.2.2.1 + 6, h.2.2.2)
abbrev am_Q : Type := (Option Value ⊕ Nat) × am_H
abbrev am_L : Type := List (Option Value)
def am_set {α : Type} : List α → Nat → α → List α
  | [], _, _ => []
  | _ :: l, 0, v => v :: l
  | a :: l, n + 1, v => a :: am_set l n v
def am_tk {α : Type} : Nat → List α → List α
  | 0, _ => []
  | _ + 1, [] => []
  | n + 1, a :: l => a :: am_tk n l
def am_dr {α : Type} : Nat → List α → List α
  | 0, l => l
  | _ + 1, [] => []
  | n + 1, _ :: l => am_dr n l
def am_rv {α : Type} : List α → List α → List α
  | [], r => r
  | a :: l, r => am_rv l (a :: r)
/-- a long whose second half is written is gone -/
def am_cut (ls : am_L) : Nat → am_L
  | 0 => ls
  | i + 1 => match am_nth ls i with
    | some (some (.long _)) => am_set ls i none
    | some (some (.double _)) => am_set ls i none
    | _ => ls
def am_p1 (ls : am_L) (i : Nat) (v : Value) : am_L := am_set (am_cut ls i) i (some v)
def am_p2 (ls : am_L) (i : Nat) (v : Value) : am_L := am_set (am_set (am_cut ls i) i (some v)) (i + 1) none
/-- arguments as locals -/
def am_la : List Value → am_L
  | [] => []
  | .long x :: l => some (.long x) :: none :: am_la l
  | .double x :: l => some (.double x) :: none :: am_la l
  | v :: l => some v :: am_la l
def am_pad : Nat → am_L → am_L
  | 0, l => l
  | n + 1, [] => none :: am_pad n []
  | n + 1, a :: l => a :: am_pad n l
/-- only the marked locals -/
def am_mk : List Bool → am_L → am_L
  | true :: m, a :: l => a :: am_mk m l
  | false :: m, _ :: l => none :: am_mk m l
  | [], l => l
  | _, [] => []
def am_ms (m : Option (List Bool)) (l : am_L) : am_L := match m with
  | some b => am_mk b l
  | none => l
section K
variable {α : Type}
def am_ldi (ls : am_L) (j : Nat) (f : Int32 → Option α) : Option α := match am_nth ls j with
  | some (some (.int v)) => f v
  | _ => none
def am_ldl (ls : am_L) (j : Nat) (f : Int64 → Option α) : Option α := match am_nth ls j with
  | some (some (.long v)) => f v
  | _ => none
def am_lda (ls : am_L) (j : Nat) (f : Nat → Option α) : Option α := match am_nth ls j with
  | some (some (.ref v)) => f v
  | _ => none
def am_u1 (st : List Value) (f : Int32 → List Value → Option α) : Option α := match st with
  | .int x :: r => f x r
  | _ => none
def am_b2 (st : List Value) (f : Int32 → Int32 → List Value → Option α) : Option α := match st with
  | .int y :: .int x :: r => f x y r
  | _ => none
def am_l2 (st : List Value) (f : Int64 → Int64 → List Value → Option α) : Option α := match st with
  | .long y :: .long x :: r => f x y r
  | _ => none
def am_l1 (st : List Value) (f : Int64 → List Value → Option α) : Option α := match st with
  | .long x :: r => f x r
  | _ => none
def am_r1 (st : List Value) (f : Nat → List Value → Option α) : Option α := match st with
  | .ref x :: r => f x r
  | _ => none
def am_c1 (v : Value) (x : Option α) : Option α := match v with
  | .long _ => none
  | .double _ => none
  | _ => x
def am_cm (c : ClassFile.Cond) (x y : Int32) (a b : Option α) : Option α := match c with
  | .eq => if x = y then a else b
  | .ne => if x = y then b else a
  | .lt => if x < y then a else b
  | .ge => if y ≤ x then a else b
  | .gt => if y < x then a else b
  | .le => if x ≤ y then a else b
def am_sw (x : Int32) (f : Nat → Option α) (d : Nat) : List (Int32 × Nat) → Option α
  | [] => f d
  | (v, t) :: l => if x = v then f t else am_sw x f d l
def am_bd (i : Int32) (n : Nat) (a : Option α) : Option α := if i < 0 ∨ n ≤ i.toNatClampNeg then none else a
/-- an object below b, of this kind -/
def am_ch (b r c : Nat) (a : Option α) : Option α := match Nat.blt r b && Nat.beq (am_ty r).1 c with
  | true => a
  | false => none
def am_gr (S R : Option Nat) (f : Nat → Option α) : Option α := match S with
  | some q => f q
  | none => match R with
    | some q => f q
    | none => none
def am_cd (c : Bool) (a b : Option α) : Option α := match c with
  | true => a
  | false => b
/-- getfield: a = 128 * class + place -/
def am_gf (b : Nat) (S : Nat → Nat → Option Nat) (r a : Nat) (h : am_H) (f : Value → Option α) : Option α :=
  am_cd (Nat.beq (a / 128) 30)
    (am_cd (Nat.blt 999 r && Nat.blt r (1000 + am_nstr)) (am_cd (Nat.beq (a % 128) 0) (f (.ref (r + 100))) (f (.int 0))) none)
    (am_ch b r (a / 128) (match am_ft a with
      | 0 => f (.int (am_I h r (a % 128)))
      | 1 => f (.long (am_J h r (a % 128)))
      | 2 => am_gr (S r (a % 128)) (am_R h r (a % 128)) (fun q => f (.ref q))
      | _ => f (.int (am_I h r (a % 128)))))
def am_pf (b : Nat) (S : Nat → Nat → Option Nat) (r a : Nat) (v : Value) (h : am_H) (f : am_H → Option α) : Option α :=
  am_ch b r (a / 128) (match am_ft a with
      | 0 => match v with
        | .int x => f (am_sI h r (a % 128) x)
        | _ => none
      | 1 => match v with
        | .long x => f (am_sJ h r (a % 128) x)
        | _ => none
      | 2 => match S r (a % 128) with
        | none => match v with
          | .ref q => am_cd (Nat.blt q b || Nat.blt 999 q) (f (am_sR h r (a % 128) (some q))) none
          | _ => none
        | some _ => none
      | _ => match v with
        | .int x => if x &&& 1 = x then f (am_sI h r (a % 128) x) else none
        | _ => none)
/-- length of an array; object 2000 is the script, its length the int at 2001 -/
def am_al (b r : Nat) (h : am_H) (f : Int32 → Option α) : Option α :=
  am_cd (Nat.beq r 2000) (f (am_I h 2001 0))
    (am_cd (Nat.blt 1099 r && Nat.blt r (1100 + am_nstr)) (f (Int32.ofNat (am_str (r - 1100)).length))
      (am_cd (Nat.blt r b && Nat.blt 15 (am_ty r).1) (f (Int32.ofNat (am_ty r).2)) none))
def am_il (b r : Nat) (i : Int32) (h : am_H) (f : Int32 → Option α) : Option α :=
  am_cd (Nat.beq r 2000) (if i < 0 ∨ am_I h 2001 0 ≤ i then none else f (am_I h 2000 i.toNatClampNeg))
    (am_ch b r 16 (am_bd i (am_ty r).2 (f (am_I h r i.toNatClampNeg))))
def am_bl (b r : Nat) (i : Int32) (h : am_H) (f : Int32 → Option α) : Option α :=
  am_cd (Nat.blt 1099 r && Nat.blt r (1100 + am_nstr)) (am_bd i (am_str (r - 1100)).length (f ((am_str (r - 1100)).getD i.toNatClampNeg 0)))
    (am_ch b r 17 (am_bd i (am_ty r).2 (f (am_I h r i.toNatClampNeg))))
def am_ll (b r : Nat) (i : Int32) (h : am_H) (f : Int64 → Option α) : Option α := am_ch b r 18 (am_bd i (am_ty r).2 (f (am_J h r i.toNatClampNeg)))
def am_is (b r k : Nat) (i : Int32) (v : Int32) (h : am_H) (f : am_H → Option α) : Option α := am_ch b r k (am_bd i (am_ty r).2 (f (am_sI h r i.toNatClampNeg v)))
def am_ls (b r : Nat) (i : Int32) (v : Int64) (h : am_H) (f : am_H → Option α) : Option α := am_ch b r 18 (am_bd i (am_ty r).2 (f (am_sJ h r i.toNatClampNeg v)))
/-- references to what is there -/
def am_sok (n : Nat) : List Value → Bool
  | [] => true
  | .ref r :: l => (Nat.blt r n || Nat.blt 999 r) && am_sok n l
  | _ :: l => am_sok n l
def am_lok (n : Nat) : am_L → Bool
  | [] => true
  | some (.ref r) :: l => (Nat.blt r n || Nat.blt 999 r) && am_lok n l
  | _ :: l => am_lok n l
def am_na (al : am_H → Bool) (h : am_H) (t : ArrayType) (x : Int32) (f : am_H → Option α) : Option α :=
  am_cd (Nat.blt h.1 100 && Nat.beq (am_ty h.1).1 (am_kt t) && (Nat.blt 15 (am_ty h.1).1 && Nat.blt (am_ty h.1).1 19) && decide (Int32.ofNat (am_ty h.1).2 = x) && Nat.blt (am_ty h.1).2 10000 && al (am_new h (am_ty h.1).2)) (f (am_new h (am_ty h.1).2)) none
def am_no (al : am_H → Bool) (h : am_H) (c : Nat) (f : am_H → Option α) : Option α :=
  am_cd (Nat.blt h.1 100 && Nat.beq (am_ty h.1).1 c && Nat.blt c 10 && al (am_new h (am_nf c))) (f (am_new h (am_nf c))) none
/-- an exception of kind e: a method with a table catches it (to answer v), one without passes it on -/
def am_t2 (e : Nat) (h : am_H) : List (Nat × Int32) → Option am_Q
  | [] => none
  | (k, v) :: l => am_cd (Nat.beq e k) (some (.inl (some (.int v)), h)) (am_t2 e h l)
def am_th (e : Nat) (h : am_H) (l : List (Nat × Int32)) : Option am_Q := match l with
  | [] => some (.inr e, h)
  | _ :: _ => am_t2 e h l
def am_bI (hd : List (Nat × Int32)) (o : Option am_Q) (f : Int32 → am_H → Option am_Q) : Option am_Q := match o with
  | some (.inl (some (.int x)), h) => f x h
  | some (.inr e, h) => am_th e h hd
  | _ => none
def am_bL (hd : List (Nat × Int32)) (o : Option am_Q) (f : Int64 → am_H → Option am_Q) : Option am_Q := match o with
  | some (.inl (some (.long x)), h) => f x h
  | some (.inr e, h) => am_th e h hd
  | _ => none
def am_bV (hd : List (Nat × Int32)) (o : Option am_Q) (f : am_H → Option am_Q) : Option am_Q := match o with
  | some (.inl none, h) => f h
  | some (.inr e, h) => am_th e h hd
  | _ => none
/-- the words that the rest of the stack takes -/
def am_sz : List Value → Nat
  | [] => 0
  | .long _ :: l => 2 + am_sz l
  | .double _ :: l => 2 + am_sz l
  | _ :: l => 1 + am_sz l
def am_w2 : List Value → Nat
  | _ :: _ :: .int w :: _ => w.toNatClampNeg
  | _ => 0
def am_rk (mj : Nat) (args : List Value) : Nat := match am_rg mj with
  | some o => am_rb + 8 * (7 - am_w2 args) + o
  | none => am_rs mj
/-- the receiver is of the callee's class (kinds: 0 static, 1 instance, 2 constructor, 3 static with a table) -/
def am_rc (b mj : Nat) (args : List Value) (a : Option α) : Option α := match am_kd mj with
  | 1 => match args with
    | .ref r :: _ => am_cd (Nat.beq (am_cj mj) 30) (am_cd (Nat.blt 999 r && Nat.blt r (1000 + am_nstr)) a none) (am_ch b r (am_cj mj) a)
    | _ => none
  | 2 => match args with
    | .ref r :: _ => am_ch b r (am_cj mj) a
    | _ => none
  | _ => a
/-- Math.min, max, abs -/
def am_mth (a : Nat) (st : List Value) (f : Int32 → List Value → Option α) : Option α := match Nat.beq a 337 with
  | true => am_u1 st fun x r => am_cd (Nat.blt (am_sz r) 9) (f (if 0 ≤ x then x else 0 - x) r) none
  | false => am_b2 st fun x y r => am_cd (Nat.blt (am_sz r) 9) (f (match Nat.beq a 335 with
    | true => if y < x then y else x
    | false => if x < y then y else x) r) none
def am_rT (ty : Option FieldType) (x : Int32) (a : Option α) : Option α := match ty with
  | some .int => a
  | some .boolean => if x &&& 1 = x then a else none
  | some .byte => if x.toInt8.toInt32 = x then a else none
  | some .char => if x.toUInt32.toUInt16.toUInt32.toInt32 = x then a else none
  | _ => none
end K
def am_cl (b : Nat) (fl : Bool) (ρ : Nat) (call : Nat → List Value → am_H → Option am_Q) (mi : Nat) (k : Nat → am_L → List Value → am_H → Option am_Q) (ls : am_L) (st : List Value) (h : am_H) (pc n a : Nat) : Option am_Q :=
  am_rc b a (am_rv (am_tk (am_np a) st) []) (am_cd ((!fl || (am_lok h.1 ls && am_sok h.1 st)) && Nat.beq (am_rv (am_tk (am_np a) st) []).length (am_np a) && Nat.blt (am_sz (am_dr (am_np a) st)) 9 && Nat.blt (am_rk a (am_rv (am_tk (am_np a) st) [])) ρ && Nat.ble (am_la (am_rv (am_tk (am_np a) st) [])).length (am_ml a))
    (match am_rt a with
      | none => am_bV (am_hd mi) (call a (am_rv (am_tk (am_np a) st) []) h) fun g => k (pc + n) ls (am_dr (am_np a) st) g
      | some .long => am_bL (am_hd mi) (call a (am_rv (am_tk (am_np a) st) []) h) fun x g => k (pc + n) ls (.long x :: am_dr (am_np a) st) g
      | some _ => am_bI (am_hd mi) (call a (am_rv (am_tk (am_np a) st) []) h) fun x g => k (pc + n) ls (.int x :: am_dr (am_np a) st) g) none)
/-- one instruction. b: objects below b are there; S: references that never change; ρ: the rank of this run; call; al: may such a heap be made; k: what follows -/
def am_st (b : Nat) (S : Nat → Nat → Option Nat) (fl : Bool) (ρ : Nat) (call : Nat → List Value → am_H → Option am_Q) (al : am_H → Bool) (k : Nat → am_L → List Value → am_H → Option am_Q)
    (mi pc : Nat) (ls : am_L) (st : List Value) (h : am_H) (i : Instr) (n : Nat) (x : Int32) (a : Nat) : Option am_Q := match i with
  | .iconst _ => k (pc + n) ls (.int x :: st) h
  | .bipush _ => k (pc + n) ls (.int x :: st) h
  | .sipush _ => k (pc + n) ls (.int x :: st) h
  | .lconst _ => k (pc + n) ls (.long (Int64.ofNat a) :: st) h
  | .ldc _ => am_cd (Nat.beq a 0) (k (pc + n) ls (.int x :: st) h) (k (pc + n) ls (.ref a :: st) h)
  | .ldc_w _ => k (pc + n) ls (.int x :: st) h
  | .ldc2_w _ => k (pc + n) ls (.long (Int64.ofNat a) :: st) h
  | .iload j => am_ldi ls j fun v => k (pc + n) ls (.int v :: st) h
  | .iload_n j => am_ldi ls j.val fun v => k (pc + n) ls (.int v :: st) h
  | .aload j => am_lda ls j fun v => k (pc + n) ls (.ref v :: st) h
  | .aload_n j => am_lda ls j.val fun v => k (pc + n) ls (.ref v :: st) h
  | .lload j => am_ldl ls j fun v => k (pc + n) ls (.long v :: st) h
  | .lload_n j => am_ldl ls j.val fun v => k (pc + n) ls (.long v :: st) h
  | .istore j => am_u1 st fun v r => am_cd (Nat.blt j ls.length) (k (pc + n) (am_p1 ls j (.int v)) r h) none
  | .istore_n j => am_u1 st fun v r => am_cd (Nat.blt j.val ls.length) (k (pc + n) (am_p1 ls j.val (.int v)) r h) none
  | .astore j => am_r1 st fun v r => am_cd (Nat.blt j ls.length) (k (pc + n) (am_p1 ls j (.ref v)) r h) none
  | .astore_n j => am_r1 st fun v r => am_cd (Nat.blt j.val ls.length) (k (pc + n) (am_p1 ls j.val (.ref v)) r h) none
  | .lstore j => am_l1 st fun v r => am_cd (Nat.blt (j + 1) ls.length) (k (pc + n) (am_p2 ls j (.long v)) r h) none
  | .lstore_n j => am_l1 st fun v r => am_cd (Nat.blt (j.val + 1) ls.length) (k (pc + n) (am_p2 ls j.val (.long v)) r h) none
  | .iinc j _ => am_ldi ls j fun v => am_cd (Nat.blt j ls.length) (k (pc + n) (am_p1 ls j (.int (v + x))) st h) none
  | .pop => match st with
    | v :: r => am_c1 v (k (pc + n) ls r h)
    | _ => none
  | .dup => match st with
    | v :: r => am_c1 v (k (pc + n) ls (v :: v :: r) h)
    | _ => none
  | .dup2 => match st with
    | v :: w :: r => am_c1 v (am_c1 w (k (pc + n) ls (v :: w :: v :: w :: r) h))
    | _ => none
  | .iadd => am_b2 st fun p q r => k (pc + n) ls (.int (p + q) :: r) h
  | .isub => am_b2 st fun p q r => k (pc + n) ls (.int (p - q) :: r) h
  | .imul => am_b2 st fun p q r => k (pc + n) ls (.int (p * q) :: r) h
  | .idiv => am_b2 st fun p q r => if q = 0 then none else k (pc + n) ls (.int (p / q) :: r) h
  | .irem => am_b2 st fun p q r => if q = 0 then none else k (pc + n) ls (.int (p - p / q * q) :: r) h
  | .iand => am_b2 st fun p q r => k (pc + n) ls (.int (p &&& q) :: r) h
  | .ior => am_b2 st fun p q r => k (pc + n) ls (.int (p ||| q) :: r) h
  | .ixor => am_b2 st fun p q r => k (pc + n) ls (.int (p ^^^ q) :: r) h
  | .ishl => am_b2 st fun p q r => k (pc + n) ls (.int (p <<< (q &&& 31)) :: r) h
  | .ishr => am_b2 st fun p q r => k (pc + n) ls (.int (p >>> (q &&& 31)) :: r) h
  | .iushr => am_b2 st fun p q r => k (pc + n) ls (.int (p.toUInt32 >>> (q.toUInt32 &&& Int32.toUInt32 31)).toInt32 :: r) h
  | .ineg => am_u1 st fun p r => k (pc + n) ls (.int (-p) :: r) h
  | .i2l => am_u1 st fun p r => k (pc + n) ls (.long p.toInt64 :: r) h
  | .i2c => am_u1 st fun p r => k (pc + n) ls (.int (p.toUInt32 % 65536).toInt32 :: r) h
  | .i2b => am_u1 st fun p r => k (pc + n) ls (.int p.toInt8.toInt32 :: r) h
  | .l2i => am_l1 st fun p r => k (pc + n) ls (.int p.toInt32 :: r) h
  | .ladd => am_l2 st fun p q r => k (pc + n) ls (.long (p + q) :: r) h
  | .lsub => am_l2 st fun p q r => k (pc + n) ls (.long (p - q) :: r) h
  | .lmul => am_l2 st fun p q r => k (pc + n) ls (.long (p * q) :: r) h
  | .lor => am_l2 st fun p q r => k (pc + n) ls (.long (p ||| q) :: r) h
  | .ldiv => am_l2 st fun p q r => if q = 0 then none else k (pc + n) ls (.long (p / q) :: r) h
  | .lrem => am_l2 st fun p q r => if q = 0 then none else k (pc + n) ls (.long (p - p / q * q) :: r) h
  | .lcmp => am_l2 st fun p q r => k (pc + n) ls (.int (lg_cmp p q) :: r) h
  | .lshl => match st with
    | .int q :: .long p :: r => k (pc + n) ls (.long (p <<< (q.toInt64 &&& 63)) :: r) h
    | _ => none
  | .if_icmp c _ => am_b2 st fun p q r => am_cm c p q (k a ls r h) (k (pc + n) ls r h)
  | .ifCond c _ => am_u1 st fun p r => am_cm c p 0 (k a ls r h) (k (pc + n) ls r h)
  | .goto _ => k a ls st h
  | .tableswitch _ _ _ _ => am_u1 st fun p r => am_sw p (fun t => k t ls r h) a (am_swt mi pc)
  | .lookupswitch _ _ => am_u1 st fun p r => am_sw p (fun t => k t ls r h) a (am_swt mi pc)
  | .ireturn => match st with
    | [.int v] => am_rT (am_rt mi) v (some (.inl (some (.int v)), h))
    | _ => none
  | .lreturn => match st with
    | [.long v] => am_cd (decide (am_rt mi = some .long)) (some (.inl (some (.long v)), h)) none
    | _ => none
  | .return_ => match st with
    | [] => am_cd (decide (am_rt mi = none)) (some (.inl none, h)) none
    | _ => none
  | .getstatic _ => am_cd (Nat.beq a 1) (k (pc + n) ls (.int 1 :: st) h) (k (pc + n) ls (.retAddr 0 :: st) h)
  | .getfield _ => am_r1 st fun r q => am_gf b S r a h fun v => k (pc + n) ls (v :: q) h
  | .putfield _ => match st with
    | v :: .ref r :: q => am_pf b S r a v h fun g => k (pc + n) ls q g
    | _ => none
  | .iaload => match st with
    | .int j :: .ref r :: q => am_il b r j h fun v => k (pc + n) ls (.int v :: q) h
    | _ => none
  | .baload => match st with
    | .int j :: .ref r :: q => am_bl b r j h fun v => k (pc + n) ls (.int v :: q) h
    | _ => none
  | .laload => match st with
    | .int j :: .ref r :: q => am_ll b r j h fun v => k (pc + n) ls (.long v :: q) h
    | _ => none
  | .iastore => match st with
    | .int v :: .int j :: .ref r :: q => am_is b r 16 j v h fun g => k (pc + n) ls q g
    | _ => none
  | .bastore => match st with
    | .int v :: .int j :: .ref r :: q => am_is b r 17 j (v &&& 1) h fun g => k (pc + n) ls q g
    | _ => none
  | .lastore => match st with
    | .long v :: .int j :: .ref r :: q => am_ls b r j v h fun g => k (pc + n) ls q g
    | _ => none
  | .arraylength => am_r1 st fun r q => am_al b r h fun v => k (pc + n) ls (.int v :: q) h
  | .newarray t => am_u1 st fun v q => am_cd (am_lok h.1 ls && am_sok h.1 q) (am_na al h t v fun g => k (pc + n) ls (.ref h.1 :: q) g) none
  | .new _ => am_cd (Nat.blt a 16) (am_cd (am_lok h.1 ls && am_sok h.1 st) (am_no al h a fun g => k (pc + n) ls (.ref h.1 :: st) g) none) (match st with
    | [] => some (.inr (a - 16), am_ex h)
    | _ => none)
  | .invokespecial _ => am_cd (Nat.beq a 999) (am_r1 st fun r q => am_cd (Nat.blt r b && Nat.blt (am_ty r).1 10 && Nat.blt (am_sz q) 9) (k (pc + n) ls q h) none) (am_cl b fl ρ call mi k ls st h pc n a)
  | .invokevirtual _ => am_cl b fl ρ call mi k ls st h pc n a
  | .invokestatic _ => am_cd (Nat.blt 334 a && Nat.blt a 338) (am_mth a st fun v r => k (pc + n) ls (.int v :: r) h) (am_cl b fl ρ call mi k ls st h pc n a)
  | _ => none
def am_s1 (b : Nat) (S : Nat → Nat → Option Nat) (fl : Bool) (ρ : Nat) (call : Nat → List Value → am_H → Option am_Q) (al : am_H → Bool) (k : Nat → am_L → List Value → am_H → Option am_Q)
    (mi pc : Nat) (ls : am_L) (st : List Value) (h : am_H) : Option am_Q := match am_f mi pc with
  | none => none
  | some (i, n, x, a) => am_st b S fl ρ call al k mi pc ls st h i n x a
/-- a mode: how many objects are there, the references that never change -/
abbrev am_B : Type := (am_H → Nat) × (Nat → Nat → Option Nat) × Bool
def am_al9 (B : am_B) (h : am_H) : Bool := Nat.beq (B.1 h) h.1
def am_ev (B : am_B) : Nat → Nat → Nat → Nat → am_L → List Value → am_H → Option am_Q
  | 0, _, _, _, _, _, _ => none
  | f + 1, ρ, mi, pc, ls, st, h => am_s1 (B.1 h) B.2.1 B.2.2 ρ (fun mj args g => am_ev B f (am_rk mj args) mj 0 (am_pad (am_ml mj) (am_la args)) [] g) (am_al9 B)
      (fun pc' ls' st' g => am_ev B f ρ mi pc' ls' st' g) mi pc (am_ms (am_mt mi pc) ls) st h
